import java.util.Arrays;

/** A clockmaker's family, told as wheels that turn one another. */
public final class CogFamily {
    public static final int NONE = -1, UNKNOWN = -1000000001, OUTSIDE = -1000000002, NOT = -1000000003, FULL = -1000000004;

    private static final int MOST_LETTERS = 250, MOST_WHEELS = 8, MOST_LINKS = 10, MOST_FEASTS = 6;
    private static final int MOST_STOOD = 12, MOST_LINES = 15, MOST_DEEDS = 30, IMAGES = 2;
    private static final int LEAST_TEETH = 3, MOST_TEETH = 30, MOST_PLACE = 29, MOST_RATE = 30;
    private static final int MESH = 0, BELT = 1, AXLE = 2;
    private static final int LAST_DAY = 900000, FAR = 99999, MOST_AGAIN = 999999999, BILLION = 1000000000;

    private final Reader reader = new Reader();
    private Works works = new Works();
    private Works spare = new Works();
    private final Motion motion = new Motion();
    private final Motion trial = new Motion();
    private final Stand now = new Stand();
    private final Deeds deeds = new Deeds();
    private final Image[] images = new Image[IMAGES];
    private final Lines seen = new Lines(MOST_STOOD);
    private final Lines book = new Lines(MOST_LINES);
    private final int[] linksAway = new int[MOST_WHEELS];
    private final int[] standingAt = new int[MOST_TEETH];
    private int drawn;

    public CogFamily() {
        for (int i = 0; i < IMAGES; i++) {
            images[i] = new Image();
        }
    }

    // ---- the clock

    public int feed(int letter) {
        if (letter < 0 || letter > 255) {
            return OUTSIDE;
        }
        return reader.take((char) letter);
    }

    public int clock() {
        reader.read(spare);
        if (reader.faultNumber != 0) {
            return -10 - reader.faultNumber;
        }
        Works old = works;
        works = spare;
        // the old one is used again, so that a new clock costs no objects
        spare = old;
        beginClock();
        reckonNow();
        return works.wheels;
    }

    public int fault() {
        return reader.faultAt;
    }

    public int told(int what) {
        switch (what) {
            case 0: return works.wheels;
            case 1: return works.links;
            case 2: return works.feasts;
            case 3: return reader.letters;
            case 4: return now.day;
            case 5: return now.mark;
            case 6: return works.wheels == 0 ? NONE : works.driven;
            case 7: return works.teethADay;
            case 8: return motion.binds ? 1 : 0;
            case 9: return now.cutLinks;
            case 10: return motion.turning;
            case 11: return seen.count;
            case 12: return book.count;
            case 13: return deeds.kept;
            case 14: return feastsToday();
            default: return OUTSIDE;
        }
    }

    public int wheel(int w, int what) {
        if (!hasWheel(w)) {
            return UNKNOWN;
        }
        switch (what) {
            case 0: return works.teeth[w];
            case 1: return placeIn(w, 0);
            case 2: return (int) motion.above[w];
            case 3: return (int) motion.below[w];
            default: return OUTSIDE;
        }
    }

    public int link(int l, int what) {
        if (!hasLink(l)) {
            return UNKNOWN;
        }
        switch (what) {
            case 0: return works.kinds[l];
            case 1: return works.ones[l];
            case 2: return works.others[l];
            case 3: return works.slipOdds[l];
            case 4: return isOn(l) ? 1 : 0;
            default: return OUTSIDE;
        }
    }

    public int feast(int f, int what) {
        if (!hasFeast(f)) {
            return UNKNOWN;
        }
        switch (what) {
            case 0: return works.feastWheels[f];
            case 1: return works.feastPlaces[f];
            default: return OUTSIDE;
        }
    }

    public int stands(int w, int n) {
        if (!hasWheel(w)) {
            return UNKNOWN;
        }
        if (n < 0 || n > FAR) {
            return OUTSIDE;
        }
        return placeIn(w, n);
    }

    // ---- days

    public int days(int n) {
        if (n < 1 || n > 9999) {
            return OUTSIDE;
        }
        if (motion.binds) {
            return NOT;
        }
        if (now.day > LAST_DAY) {
            return FULL;
        }
        deeds.remember(now);
        now.day += n;
        return now.day;
    }

    public int cut(int l, boolean is) {
        if (!hasLink(l)) {
            return UNKNOWN;
        }
        boolean wasOn = isOn(l);
        if (wasOn == is) {
            deeds.remember(now);
            setMark();
            now.cutLinks ^= 1 << l;
            reckonNow();
        }
        return wasOn ? 1 : 0;
    }

    public int slip(int w, int n) {
        if (!hasWheel(w)) {
            return UNKNOWN;
        }
        if (n < -99 || n > 99) {
            return OUTSIDE;
        }
        deeds.remember(now);
        push(w, n);
        return now.places[w];
    }

    public int drift(int n) {
        if (n < 1 || n > 99) {
            return OUTSIDE;
        }
        if (motion.binds || works.wheels == 0) {
            return NOT;
        }
        if (now.day > LAST_DAY) {
            return FULL;
        }
        deeds.remember(now);
        for (int i = 0; i < n; i++) {
            if (draw(8) == 0) {
                push(draw(works.wheels), 1);
            }
            now.day++;
        }
        return now.day;
    }

    public int undo(int n) {
        if (n < 1 || n > MOST_DEEDS) {
            return OUTSIDE;
        }
        if (n > deeds.kept) {
            return NOT;
        }
        deeds.takeBack(n, now);
        reckonNow();
        return now.day;
    }

    // ---- tried

    public int next(int f) {
        if (!hasFeast(f)) {
            return UNKNOWN;
        }
        return dayOfAll(1 << f, 9999);
    }

    public int together(int set) {
        if (hasBitsBeyond(set, works.feasts)) {
            return UNKNOWN;
        }
        return dayOfAll(set, FAR);
    }

    public int again() {
        long round = roundOf(motion.turning);
        return round < 1 || round > MOST_AGAIN ? NONE : (int) round;
    }

    public int added(int w, int p, int n, int i) {
        if (!hasWheel(w)) {
            return UNKNOWN;
        }
        if (p < 0 || p > MOST_PLACE || n < 0 || n > 9999) {
            return OUTSIDE;
        }
        long turned = floorPart(-motion.above[w] * n, motion.below[w]);
        int fitting = 0;
        for (int teeth = LEAST_TEETH; teeth <= MOST_TEETH; teeth++) {
            if (leftOver(turned, teeth) == p) {
                fitting |= 1 << teeth;
            }
        }
        return howManyOrOne(fitting, i);
    }

    public int alike(int a, int b) {
        if (!areTwoWheels(a, b)) {
            return UNKNOWN;
        }
        if (!motion.turns(a) || !motion.turns(b)) {
            return NOT;
        }
        return motion.turnAlike(a, b) ? 1 : 0;
    }

    public int idlers(int a, int b, int what) {
        if (!areTwoWheels(a, b)) {
            return UNKNOWN;
        }
        if (what < 0 || what > 1) {
            return OUTSIDE;
        }
        return howManyOrWhich(fewestIdlers(a, b), what);
    }

    public int free(int what) {
        if (what < 0 || what > 1) {
            return OUTSIDE;
        }
        return howManyOrWhich(fewestCuts(0), what);
    }

    public int rest(int set, int what) {
        if (hasBitsBeyond(set, works.wheels)) {
            return UNKNOWN;
        }
        if (what < 0 || what > 1) {
            return OUTSIDE;
        }
        return howManyOrWhich(fewestCuts(set), what);
    }

    public int wear(int l, int what) {
        if (!hasLink(l)) {
            return UNKNOWN;
        }
        if (what < 0 || what > 1) {
            return OUTSIDE;
        }
        if (works.kinds[l] != MESH) {
            return NOT;
        }
        return what == 0 ? teethMet(l) : daysToMeet(l);
    }

    public int slips(int w, int n) {
        if (!hasWheel(w)) {
            return UNKNOWN;
        }
        if (n < 0 || n > 99) {
            return OUTSIDE;
        }
        return motion.turns(w) ? oddsOfNoSlip(w, n) : 0;
    }

    public int hidden(int w, int kind, int r, int i) {
        if (!hasWheel(w)) {
            return UNKNOWN;
        }
        if (kind < MESH || kind > AXLE || r < -MOST_RATE || r > MOST_RATE || r == 0) {
            return OUTSIDE;
        }
        if (motion.turns(w)) {
            return NOT;
        }
        int found = 0;
        for (int a = 0; a < works.wheels; a++) {
            for (int b = a + 1; b < works.wheels; b++) {
                if (motion.turns(a) == motion.turns(b) || !wouldTurn(w, r, kind, a, b)) {
                    continue;
                }
                if (found == i) {
                    return 100 * a + b;
                }
                found++;
            }
        }
        return i == NONE ? found : NONE;
    }

    // ---- what stood

    public int stood(int w, int n, int place) {
        if (!hasWheel(w)) {
            return UNKNOWN;
        }
        if (n < 0 || n > 999 || place < 0 || place > MOST_PLACE) {
            return OUTSIDE;
        }
        return seen.put(w, n, place);
    }

    public int teeth(int w, int i) {
        if (!hasWheel(w)) {
            return UNKNOWN;
        }
        return howManyOrOne(teethThatFit(w), i);
    }

    public int look(int w) {
        if (!hasWheel(w)) {
            return UNKNOWN;
        }
        int fitting = teethThatFit(w);
        int least = Integer.bitCount(fitting);
        int best = NONE;
        for (int day = 1; day <= 30; day++) {
            int part = greatestPart(w, day, fitting);
            if (part < least) {
                least = part;
                best = day;
            }
        }
        return best;
    }

    public int write(int w, int n, int place) {
        if (!hasWheel(w)) {
            return UNKNOWN;
        }
        if (n < 0 || n > FAR || place < 0 || place > MOST_PLACE) {
            return OUTSIDE;
        }
        return book.put(w, n, place);
    }

    public int judge() {
        for (int i = 0; i < book.count; i++) {
            if (placeIn(book.wheels[i], book.daysAhead[i]) != book.places[i]) {
                return i;
            }
        }
        return NONE;
    }

    public int tear() {
        int both = seen.count + book.count;
        seen.count = 0;
        book.count = 0;
        return both;
    }

    // ---- images

    public int seed(int v) {
        if (v < 0) {
            return OUTSIDE;
        }
        int old = drawn;
        drawn = v;
        return old;
    }

    public int keep(int i) {
        if (i < 0 || i >= IMAGES) {
            return UNKNOWN;
        }
        images[i].stand.become(now);
        images[i].drawn = drawn;
        images[i].kept = true;
        deeds.kept = 0;
        return 1;
    }

    public int goBack(int i) {
        if (i < 0 || i >= IMAGES) {
            return UNKNOWN;
        }
        if (!images[i].kept) {
            return NOT;
        }
        now.become(images[i].stand);
        drawn = images[i].drawn;
        deeds.kept = 0;
        reckonNow();
        return 1;
    }

    // ---- what there is

    private boolean hasWheel(int w) {
        return w >= 0 && w < works.wheels;
    }

    private boolean hasLink(int l) {
        return l >= 0 && l < works.links;
    }

    private boolean hasFeast(int f) {
        return f >= 0 && f < works.feasts;
    }

    private boolean areTwoWheels(int a, int b) {
        return hasWheel(a) && hasWheel(b) && a != b;
    }

    private static boolean hasBitsBeyond(int set, int count) {
        // the sign moves along, so a SET below 0 has such a bit
        return (set >> count) != 0;
    }

    private boolean isOn(int l) {
        return (now.cutLinks >> l & 1) == 0;
    }

    private int linksOn() {
        return ((1 << works.links) - 1) & ~now.cutLinks;
    }

    // ---- how it goes

    private void beginClock() {
        now.day = 0;
        now.mark = 0;
        now.cutLinks = 0;
        System.arraycopy(works.starts, 0, now.places, 0, MOST_WHEELS);
        seen.count = 0;
        book.count = 0;
        deeds.kept = 0;
        for (int i = 0; i < IMAGES; i++) {
            images[i].kept = false;
        }
    }

    private void reckonNow() {
        motion.reckon(works, linksOn(), 0);
    }

    private int placeIn(int w, int n) {
        long since = (long) now.day - now.mark + n;
        return (int) leftOver(now.places[w] + turnedIn(w, since), works.teeth[w]);
    }

    private long turnedIn(int w, long days) {
        return floorPart(motion.above[w] * days, motion.below[w]);
    }

    /** Parts of teeth are lost by it. */
    private void setMark() {
        for (int w = 0; w < works.wheels; w++) {
            now.places[w] = placeIn(w, 0);
        }
        now.mark = now.day;
    }

    private void push(int w, int n) {
        setMark();
        now.places[w] = (int) leftOver(now.places[w] + n, works.teeth[w]);
    }

    private int draw(int n) {
        drawn = (drawn * 1103515245 + 12345) & 0x7FFFFFFF;
        return (int) leftOver(drawn / 65536, n);
    }

    // ---- feasts

    private int feastsToday() {
        int set = 0;
        for (int f = 0; f < works.feasts; f++) {
            if (areAllIn(0, 1 << f)) {
                set |= 1 << f;
            }
        }
        return set;
    }

    /** Whether all FEASTS of a SET are in n days. */
    private boolean areAllIn(int n, int set) {
        for (int f = 0; f < works.feasts; f++) {
            if ((set >> f & 1) == 1 && placeIn(works.feastWheels[f], n) != works.feastPlaces[f]) {
                return false;
            }
        }
        return true;
    }

    /** In how many days, most at most, all FEASTS of a SET are. */
    private int dayOfAll(int set, int most) {
        int leader = leaderOf(set);
        if (leader == NONE) {
            return areAllIn(0, set) ? 0 : NONE;
        }
        // behind a whole round the same days come again
        long last = Math.min(most, roundOf(wheelsOf(set)) - 1);
        int w = works.feastWheels[leader];
        // parts of a tooth: so a day is a sum, not a division
        long parts = motion.below[w];
        long circle = parts * works.teeth[w];
        long step = leftOver(motion.above[w], circle);
        long at = leftOver(now.places[w] * parts + motion.above[w] * ((long) now.day - now.mark), circle);
        long from = works.feastPlaces[leader] * parts;
        for (int n = 0; n <= last; n++) {
            if (at >= from && at < from + parts && areAllIn(n, set)) {
                return n;
            }
            at += step;
            if (at >= circle) {
                at -= circle;
            }
        }
        return NONE;
    }

    /** The FEAST of a SET that is most seldom of those whose WHEELS turn. */
    private int leaderOf(int set) {
        int leader = NONE;
        int most = 0;
        for (int f = 0; f < works.feasts; f++) {
            int w = works.feastWheels[f];
            if ((set >> f & 1) == 1 && motion.turns(w) && works.teeth[w] > most) {
                leader = f;
                most = works.teeth[w];
            }
        }
        return leader;
    }

    private int wheelsOf(int set) {
        int wheels = 0;
        for (int f = 0; f < works.feasts; f++) {
            if ((set >> f & 1) == 1) {
                wheels |= 1 << works.feastWheels[f];
            }
        }
        return wheels;
    }

    /** Days in which those of some that turn stand again as they do; 0: none turns; it is cut short above MOST_AGAIN. */
    private long roundOf(int wheels) {
        int turning = wheels & motion.turning;
        long round = turning == 0 ? 0 : 1;
        for (int w = 0; w < works.wheels && round <= MOST_AGAIN; w++) {
            if ((turning >> w & 1) == 1) {
                int teeth = works.teeth[w];
                long own = motion.below[w] * teeth / common(motion.above[w], teeth);
                round = round / common(round, own) * own;
            }
        }
        return round;
    }

    // ---- fewest links

    private int fewestIdlers(int a, int b) {
        int allowed = linksOn() & works.linksThatMesh();
        int best = allowed;
        // with an idler at each of them nobody turns the other way: if two do not turn alike then, they never do
        if (!wouldTurnAlike(a, b, allowed)) {
            return NONE;
        }
        for (int set = 0; set < allowed; set++) {
            if (isFewer(set, best, allowed) && wouldTurnAlike(a, b, set)) {
                best = set;
            }
        }
        return best;
    }

    private boolean wouldTurnAlike(int a, int b, int idlers) {
        trial.reckon(works, linksOn(), idlers);
        return trial.turns(a) && trial.turns(b) && trial.turnAlike(a, b);
    }

    private int fewestCuts(int resting) {
        int on = linksOn();
        int best = on;
        // without any LINK the driven one turns alone, and nothing keeps it
        if ((resting >> works.driven & 1) == 1) {
            return NONE;
        }
        for (int set = 0; set < on; set++) {
            if (isFewer(set, best, on) && wouldRest(resting, set)) {
                best = set;
            }
        }
        return best;
    }

    private boolean wouldRest(int resting, int cuts) {
        trial.reckon(works, linksOn() & ~cuts, 0);
        return !trial.binds && (trial.turning & resting) == 0;
    }

    private static boolean isFewer(int set, int best, int allowed) {
        return (set & ~allowed) == 0 && Integer.bitCount(set) < Integer.bitCount(best);
    }

    private static int howManyOrWhich(int set, int what) {
        if (set == NONE) {
            return NONE;
        }
        return what == 0 ? Integer.bitCount(set) : set;
    }

    /** How many bits a SET has (i is NONE), else the i-th of them; NONE. */
    private static int howManyOrOne(int set, int i) {
        if (i == NONE) {
            return Integer.bitCount(set);
        }
        int found = 0;
        for (int k = 0; k <= MOST_TEETH; k++) {
            if ((set >> k & 1) == 1) {
                if (found == i) {
                    return k;
                }
                found++;
            }
        }
        return NONE;
    }

    // ---- wear, slips, what is hidden

    private int teethMet(int l) {
        int a = works.teeth[works.ones[l]];
        int b = works.teeth[works.others[l]];
        return (int) (b / common(a, b));
    }

    private int daysToMeet(int l) {
        int w = works.ones[l];
        if (!isOn(l) || !motion.turns(w)) {
            return NONE;
        }
        long passing = (long) works.teeth[w] * teethMet(l);
        long above = Math.abs(motion.above[w]);
        return (int) floorPart(passing * motion.below[w] + above - 1, above);
    }

    private int oddsOfNoSlip(int w, int n) {
        countLinksAway(w);
        int at = works.driven;
        long odds = BILLION;
        for (int i = 0; i < MOST_WHEELS && at != w; i++) {
            int l = nextLinkTo(at);
            if (l == NONE) {
                return 0;
            }
            for (int day = 0; day < n; day++) {
                odds = odds * (1000 - works.slipOdds[l]) / 1000;
            }
            at = works.across(l, at);
        }
        return (int) odds;
    }

    private void countLinksAway(int w) {
        Arrays.fill(linksAway, NONE);
        linksAway[w] = 0;
        for (int away = 0; away < MOST_WHEELS; away++) {
            for (int l = 0; l < works.links; l++) {
                if (isOn(l)) {
                    countAcross(works.ones[l], works.others[l], away);
                    countAcross(works.others[l], works.ones[l], away);
                }
            }
        }
    }

    private void countAcross(int w, int other, int away) {
        if (linksAway[w] == away && linksAway[other] == NONE) {
            linksAway[other] = away + 1;
        }
    }

    /** The least LINK by which a WHEEL is a step nearer to the one that was counted from; NONE. */
    private int nextLinkTo(int w) {
        for (int l = 0; l < works.links; l++) {
            int other = works.across(l, w);
            if (isOn(l) && other != NONE && linksAway[other] == linksAway[w] - 1) {
                return l;
            }
        }
        return NONE;
    }

    private boolean wouldTurn(int w, int r, int kind, int a, int b) {
        int l = works.links;
        works.setLink(l, kind, a, b);
        trial.reckon(works, linksOn() | 1 << l, 0);
        return trial.above[w] == r && trial.below[w] == 1;
    }

    // ---- teeth that fit

    private int teethThatFit(int w) {
        int set = 0;
        for (int teeth = LEAST_TEETH; teeth <= MOST_TEETH; teeth++) {
            if (isAsSeen(w, teeth)) {
                set |= 1 << teeth;
            }
        }
        return set;
    }

    private boolean isAsSeen(int w, int teeth) {
        for (int i = 0; i < seen.count; i++) {
            if (seen.wheels[i] == w && placeWith(w, teeth, seen.daysAhead[i]) != seen.places[i]) {
                return false;
            }
        }
        return true;
    }

    /** Where a WHEEL would stand in n days, if it had so many TEETH. */
    private int placeWith(int w, int teeth, int n) {
        return (int) leftOver(placeIn(w, 0) + turnedIn(w, n), teeth);
    }

    private int greatestPart(int w, int day, int fitting) {
        Arrays.fill(standingAt, 0);
        int greatest = 0;
        for (int teeth = LEAST_TEETH; teeth <= MOST_TEETH; teeth++) {
            if ((fitting >> teeth & 1) == 1) {
                int place = placeWith(w, teeth, day);
                standingAt[place]++;
                greatest = Math.max(greatest, standingAt[place]);
            }
        }
        return greatest;
    }

    // ---- numbers

    private static long floorPart(long above, long below) {
        return below == 0 ? 0 : Math.floorDiv(above, below);
    }

    private static long leftOver(long number, long by) {
        return by < 1 ? 0 : Math.floorMod(number, by);
    }

    /** The greatest number that divides both; 1 or more. */
    private static long common(long a, long b) {
        long great = Math.abs(a);
        long small = Math.abs(b);
        // Euclid halves at every second step: 100 is beyond any two longs
        for (int i = 0; i < 100 && small != 0; i++) {
            long over = great % small;
            great = small;
            small = over;
        }
        return Math.max(great, 1);
    }

    /** What a text tells: it stays so as long as THE CLOCK does. */
    private static final class Works {
        int wheels, links, feasts, driven, teethADay = 1;
        final int[] teeth = new int[MOST_WHEELS];
        final int[] starts = new int[MOST_WHEELS];
        final int[] slipOdds = new int[MOST_LINKS];
        // these have a row more than a text may tell: there a hidden LINK is tried
        final int[] kinds = new int[MOST_LINKS + 1];
        final int[] ones = new int[MOST_LINKS + 1];
        final int[] others = new int[MOST_LINKS + 1];
        final int[] feastWheels = new int[MOST_FEASTS];
        final int[] feastPlaces = new int[MOST_FEASTS];

        void forgetAll() {
            wheels = 0;
            links = 0;
            feasts = 0;
            driven = 0;
            teethADay = 1;
        }

        void addWheel(int count, int start) {
            teeth[wheels] = count;
            starts[wheels] = (int) leftOver(start, count);
            wheels++;
        }

        void setLink(int l, int kind, int a, int b) {
            kinds[l] = kind;
            ones[l] = a;
            others[l] = b;
        }

        void addLink(int kind, int a, int b, int odds) {
            setLink(links, kind, a, b);
            slipOdds[links] = odds;
            links++;
        }

        void addFeast(int w, int place) {
            feastWheels[feasts] = w;
            feastPlaces[feasts] = place;
            feasts++;
        }

        /** The WHEEL at the other end of a LINK; NONE: it does not touch this one. */
        int across(int l, int w) {
            if (ones[l] == w) {
                return others[l];
            }
            return others[l] == w ? ones[l] : NONE;
        }

        int linksThatMesh() {
            int set = 0;
            for (int l = 0; l < links; l++) {
                if (kinds[l] == MESH) {
                    set |= 1 << l;
                }
            }
            return set;
        }
    }

    /** Takes a text letter by letter and reads it to its first FAULT. */
    private static final class Reader {
        private final char[] text = new char[MOST_LETTERS];
        int letters;
        private int length;
        private int at;
        private int numberAt;
        private boolean isDriven;
        int faultNumber;
        int faultAt = NONE;

        int take(char letter) {
            if (letters >= MOST_LETTERS) {
                return FULL;
            }
            text[letters] = letter;
            letters++;
            return letters;
        }

        /** The text is empty behind it. */
        void read(Works into) {
            into.forgetAll();
            length = letters;
            letters = 0;
            at = 0;
            isDriven = false;
            faultNumber = 0;
            faultAt = NONE;
            skipBlanks();
            for (int i = 0; i < MOST_LETTERS && at < length && faultNumber == 0; i++) {
                readClause(text[at], into);
                skipBlanks();
            }
        }

        private void readClause(char word, Works into) {
            if (word == 'w') {
                readWheel(into);
            } else if (word == 'l') {
                readLink(into);
            } else if (word == 'd') {
                readDriven(into);
            } else if (word == 'f') {
                readFeast(into);
            } else {
                fail(1, at);
            }
        }

        private void readWheel(Works into) {
            passWord(into.wheels >= MOST_WHEELS);
            int teeth = readNumber(LEAST_TEETH, MOST_TEETH);
            int start = readNumber(0, MOST_PLACE);
            passEnd();
            if (faultNumber == 0) {
                into.addWheel(teeth, start);
            }
        }

        private void readLink(Works into) {
            passWord(into.links >= MOST_LINKS);
            int kind = readKind();
            int a = readNumber(0, into.wheels - 1);
            int b = readNumber(0, into.wheels - 1);
            if (a == b) {
                fail(4, numberAt);
            }
            int odds = readNumber(0, 999);
            passEnd();
            if (faultNumber == 0) {
                into.addLink(kind, a, b, odds);
            }
        }

        private void readDriven(Works into) {
            passWord(isDriven);
            int w = readNumber(0, into.wheels - 1);
            int teethADay = readNumber(1, MOST_RATE);
            passEnd();
            if (faultNumber == 0) {
                into.driven = w;
                into.teethADay = teethADay;
                isDriven = true;
            }
        }

        private void readFeast(Works into) {
            passWord(into.feasts >= MOST_FEASTS);
            int w = readNumber(0, into.wheels - 1);
            int place = readNumber(0, MOST_PLACE);
            if (faultNumber == 0 && place >= into.teeth[w]) {
                fail(4, numberAt);
            }
            passEnd();
            if (faultNumber == 0) {
                into.addFeast(w, place);
            }
        }

        private void passWord(boolean isTooMuch) {
            if (isTooMuch) {
                fail(3, at);
            }
            at++;
        }

        private void passEnd() {
            skipBlanks();
            if (at < length && text[at] == ';') {
                at++;
            } else {
                fail(1, at);
            }
        }

        private int readKind() {
            skipBlanks();
            char letter = at < length ? text[at] : ' ';
            int kind = letter == 'm' ? MESH : letter == 'b' ? BELT : letter == 'a' ? AXLE : NONE;
            if (kind == NONE) {
                fail(1, at);
            }
            at++;
            return kind;
        }

        /** A NUMBER; what it answers is of use only without a FAULT. */
        private int readNumber(int least, int most) {
            skipBlanks();
            numberAt = at;
            int value = 0;
            while (at < length && text[at] >= '0' && text[at] <= '9') {
                // more than four figures are a FAULT already and could overflow
                if (at - numberAt < 4) {
                    value = 10 * value + text[at] - '0';
                }
                at++;
            }
            if (at == numberAt) {
                fail(1, at);
            } else if (at - numberAt > 3 || value < least || value > most) {
                fail(2, numberAt);
            }
            return value;
        }

        private void skipBlanks() {
            while (at < length && text[at] == ' ') {
                at++;
            }
        }

        /** Only the first counts: letters are read from left to right. */
        private void fail(int number, int place) {
            if (faultNumber == 0) {
                faultNumber = number;
                faultAt = place;
            }
        }
    }

    /** RATES of all WHEELS by some of the LINKS. */
    private static final class Motion {
        final long[] above = new long[MOST_WHEELS];
        final long[] below = new long[MOST_WHEELS];
        private final int[] row = new int[MOST_WHEELS];
        private int reached;
        int turning;
        boolean binds;

        Motion() {
            restAll();
        }

        boolean turns(int w) {
            return (turning >> w & 1) == 1;
        }

        boolean turnAlike(int a, int b) {
            return above[a] > 0 == above[b] > 0;
        }

        void reckon(Works works, int on, int idlers) {
            restAll();
            binds = false;
            if (works.wheels == 0) {
                return;
            }
            reach(works.driven, works.teethADay, 1);
            // more are reached as it spreads, each of them once
            for (int i = 0; i < MOST_WHEELS && i < reached && !binds; i++) {
                spread(works, row[i], on, idlers);
            }
            if (binds) {
                restAll();
            }
        }

        private void restAll() {
            Arrays.fill(above, 0);
            Arrays.fill(below, 1);
            reached = 0;
            turning = 0;
        }

        private void reach(int w, long up, long down) {
            above[w] = up;
            below[w] = down;
            turning |= 1 << w;
            row[reached] = w;
            reached++;
        }

        private void spread(Works works, int w, int on, int idlers) {
            for (int l = 0; l <= MOST_LINKS; l++) {
                int other = (on >> l & 1) == 1 ? works.across(l, w) : NONE;
                if (other != NONE) {
                    int kind = (idlers >> l & 1) == 1 ? BELT : works.kinds[l];
                    carry(kind, w, other, works.teeth[w], works.teeth[other]);
                }
            }
        }

        private void carry(int kind, int w, int other, int teeth, int otherTeeth) {
            long up = kind == MESH ? -above[w] : above[w];
            long down = below[w];
            if (kind == AXLE) {
                up *= otherTeeth;
                down *= teeth;
                long both = common(up, down);
                up /= both;
                down /= both;
            }
            if (!turns(other)) {
                reach(other, up, down);
            } else if (above[other] != up || below[other] != down) {
                binds = true;
            }
        }
    }

    /** What a deed may change. */
    private static final class Stand {
        int day, mark, cutLinks;
        final int[] places = new int[MOST_WHEELS];

        void become(Stand other) {
            day = other.day;
            mark = other.mark;
            cutLinks = other.cutLinks;
            System.arraycopy(other.places, 0, places, 0, MOST_WHEELS);
        }
    }

    /** How all was ahead of each of the latest deeds, in a ring. */
    private static final class Deeds {
        private final Stand[] ring = new Stand[MOST_DEEDS];
        private int end;
        int kept;

        Deeds() {
            for (int i = 0; i < MOST_DEEDS; i++) {
                ring[i] = new Stand();
            }
        }

        void remember(Stand stand) {
            ring[end].become(stand);
            end = (end + 1) % MOST_DEEDS;
            kept = Math.min(kept + 1, MOST_DEEDS);
        }

        void takeBack(int n, Stand into) {
            end = (int) leftOver(end - n, MOST_DEEDS);
            kept -= n;
            into.become(ring[end]);
        }
    }

    private static final class Image {
        final Stand stand = new Stand();
        int drawn;
        boolean kept;
    }

    /** Lines of a WHEEL, days and a PLACE. */
    private static final class Lines {
        final int[] wheels;
        final int[] daysAhead;
        final int[] places;
        int count;

        Lines(int most) {
            int room = Math.max(most, 0);
            wheels = new int[room];
            daysAhead = new int[room];
            places = new int[room];
        }

        int put(int w, int n, int place) {
            if (count >= wheels.length) {
                return FULL;
            }
            wheels[count] = w;
            daysAhead[count] = n;
            places[count] = place;
            count++;
            return count;
        }
    }
}
