import java.math.BigDecimal;
import java.math.BigInteger;
import java.math.RoundingMode;
import java.util.ArrayList;
import java.util.Arrays;
import java.util.Comparator;
import java.util.HashSet;
import java.util.List;
import java.util.Set;

/** Long rows of drawn calls on the program and on a slow model that is written straight from the document. */
public final class ModelRuns {
    private static final int NONE = -1, UNKNOWN = -1000000001, OUTSIDE = -1000000002, NOT = -1000000003, FULL = -1000000004;

    /** A part in lowest terms, below 1 or more. */
    private record Part(BigInteger above, BigInteger below) {
        static final Part ZERO = of(0, 1);

        static Part of(long above, long below) {
            return of(BigInteger.valueOf(above), BigInteger.valueOf(below));
        }

        static Part of(BigInteger above, BigInteger below) {
            BigInteger common = above.gcd(below).multiply(BigInteger.valueOf(below.signum()));
            return new Part(above.divide(common), below.divide(common));
        }

        Part times(long above2, long below2) {
            return of(above.multiply(BigInteger.valueOf(above2)), below.multiply(BigInteger.valueOf(below2)));
        }

        long floor() {
            return new BigDecimal(above).divide(new BigDecimal(below), 0, RoundingMode.FLOOR).longValueExact();
        }

        long floorTimes(long days) {
            return Math.floorDiv(above.longValueExact() * days, below.longValueExact());
        }
    }

    private record Link(char kind, int a, int b, int q) { }

    private record Told(List<int[]> wheels, List<Link> links, List<int[]> feasts, int driven, int r) { }

    private record Fault(int place, int number) { }

    /** What a deed changes. */
    private record Stand(int day, int mark, Set<Integer> cut, int[] places) {
        Stand copy() {
            return new Stand(day, mark, new HashSet<>(cut), places.clone());
        }
    }

    private static final class Model {
        String text = "";
        int faultPlace = NONE;
        Told told = new Told(List.of(), List.of(), List.of(), 0, 1);
        Stand now = new Stand(0, 0, new HashSet<>(), new int[0]);
        long seed = 0;
        final List<Stand> deeds = new ArrayList<>();
        final Stand[] images = new Stand[2];
        final long[] imageSeeds = new long[2];
        final List<int[]> stood = new ArrayList<>();
        final List<int[]> book = new ArrayList<>();

        // ---- the text

        private record Token(int place, String letters) { }

        private static List<Token> tokens(String text) {
            List<Token> tokens = new ArrayList<>();
            int i = 0;
            while (i < text.length()) {
                int j = i + 1;
                if (text.charAt(i) == ' ') {
                    i++;
                    continue;
                }
                while (isFigure(text.charAt(i)) && j < text.length() && isFigure(text.charAt(j))) {
                    j++;
                }
                tokens.add(new Token(i, text.substring(i, j)));
                i = j;
            }
            tokens.add(new Token(text.length(), ""));
            return tokens;
        }

        private static boolean isFigure(char letter) {
            return letter >= '0' && letter <= '9';
        }

        private static int value(Token token) {
            return token.letters.length() > 3 ? 100000 : Integer.parseInt(token.letters);
        }

        /** What the text tells, or its first FAULT. */
        private static Object read(String text) {
            List<int[]> wheels = new ArrayList<>();
            List<Link> links = new ArrayList<>();
            List<int[]> feasts = new ArrayList<>();
            int driven = NONE;
            int r = 1;
            List<Token> tokens = tokens(text);
            int at = 0;
            while (!tokens.get(at).letters.isEmpty()) {
                Token word = tokens.get(at);
                String form = switch (word.letters) {
                    case "w" -> "ts;";
                    case "l" -> "kabq;";
                    case "d" -> "ar;";
                    case "f" -> "ap;";
                    default -> null;
                };
                if (form == null) {
                    return new Fault(word.place, 1);
                }
                boolean tooMuch = switch (word.letters) {
                    case "w" -> wheels.size() == 8;
                    case "l" -> links.size() == 10;
                    case "d" -> driven != NONE;
                    default -> feasts.size() == 6;
                };
                if (tooMuch) {
                    return new Fault(word.place, 3);
                }
                int[] told = new int[form.length()];
                for (int i = 0; i < form.length(); i++) {
                    Token token = tokens.get(at + 1 + i);
                    char part = form.charAt(i);
                    boolean isNumber = !token.letters.isEmpty() && isFigure(token.letters.charAt(0));
                    if (part == ';') {
                        if (!token.letters.equals(";")) {
                            return new Fault(token.place, 1);
                        }
                    } else if (part == 'k') {
                        if (!List.of("m", "b", "a").contains(token.letters)) {
                            return new Fault(token.place, 1);
                        }
                        told[i] = token.letters.charAt(0);
                    } else if (!isNumber) {
                        return new Fault(token.place, 1);
                    } else {
                        int value = value(token);
                        int least = part == 't' ? 3 : part == 'r' ? 1 : 0;
                        int most = switch (part) {
                            case 't', 'r' -> 30;
                            case 's', 'p' -> 29;
                            case 'q' -> 999;
                            default -> wheels.size() - 1;
                        };
                        if (value < least || value > most) {
                            return new Fault(token.place, 2);
                        }
                        if (part == 'b' && value == told[i - 1] || part == 'p' && value >= wheels.get(told[i - 1])[0]) {
                            return new Fault(token.place, 4);
                        }
                        told[i] = value;
                    }
                }
                switch (word.letters) {
                    case "w" -> wheels.add(new int[] {told[0], told[1] % told[0]});
                    case "l" -> links.add(new Link((char) told[0], told[1], told[2], told[3]));
                    case "d" -> {
                        driven = told[0];
                        r = told[1];
                    }
                    default -> feasts.add(new int[] {told[0], told[1]});
                }
                at += form.length() + 1;
            }
            return new Told(wheels, links, feasts, Math.max(driven, 0), r);
        }

        int feed(int letter) {
            if (letter < 0 || letter > 255) {
                return OUTSIDE;
            }
            if (text.length() == 250) {
                return FULL;
            }
            text += (char) letter;
            return text.length();
        }

        int clock() {
            Object read = read(text);
            text = "";
            if (read instanceof Fault fault) {
                faultPlace = fault.place;
                return -10 - fault.number;
            }
            faultPlace = NONE;
            told = (Told) read;
            now = new Stand(0, 0, new HashSet<>(), told.wheels.stream().mapToInt(w -> w[1]).toArray());
            deeds.clear();
            stood.clear();
            book.clear();
            Arrays.fill(images, null);
            return told.wheels.size();
        }

        // ---- rates

        private List<Link> on(Set<Integer> cut) {
            List<Link> on = new ArrayList<>();
            for (int l = 0; l < told.links.size(); l++) {
                if (!cut.contains(l)) {
                    on.add(told.links.get(l));
                }
            }
            return on;
        }

        private Part across(Part rate, Link link, int from, int to) {
            return switch (link.kind) {
                case 'm' -> rate.times(-1, 1);
                case 'b' -> rate;
                default -> rate.times(told.wheels.get(to)[0], told.wheels.get(from)[0]);
            };
        }

        /** RATES by such LINKS; null: it BINDS. */
        private Part[] rates(List<Link> on) {
            Part[] rates = new Part[told.wheels.size()];
            if (rates.length > 0) {
                rates[told.driven] = Part.of(told.r, 1);
            }
            for (int again = 0; again < rates.length; again++) {
                for (Link link : on) {
                    if (rates[link.a] != null && rates[link.b] == null) {
                        rates[link.b] = across(rates[link.a], link, link.a, link.b);
                    } else if (rates[link.b] != null && rates[link.a] == null) {
                        rates[link.a] = across(rates[link.b], link, link.b, link.a);
                    }
                }
            }
            for (Link link : on) {
                if (rates[link.a] != null && !across(rates[link.a], link, link.a, link.b).equals(rates[link.b])) {
                    return null;
                }
            }
            for (int w = 0; w < rates.length; w++) {
                rates[w] = rates[w] == null ? Part.ZERO : rates[w];
            }
            return rates;
        }

        private boolean binds() {
            return rates(on(now.cut)) == null;
        }

        private Part rate(int w) {
            Part[] rates = rates(on(now.cut));
            return rates == null ? Part.ZERO : rates[w];
        }

        private boolean turns(int w) {
            return rate(w).above.signum() != 0;
        }

        private int teethOf(int w) {
            return told.wheels.get(w)[0];
        }

        private int place(int w, int n) {
            return place(rate(w), w, n);
        }

        private int place(Part rate, int w, int n) {
            return (int) Math.floorMod(now.places[w] + rate.floorTimes(now.day + n - now.mark), (long) teethOf(w));
        }

        private boolean noWheel(int w) {
            return w < 0 || w >= told.wheels.size();
        }

        private boolean noLink(int l) {
            return l < 0 || l >= told.links.size();
        }

        private static boolean out(int value, int least, int most) {
            return value < least || value > most;
        }

        private static int bits(Iterable<Integer> which) {
            int set = 0;
            for (int k : which) {
                set |= 1 << k;
            }
            return set;
        }

        int told(int what) {
            List<Integer> turning = new ArrayList<>();
            for (int w = 0; w < told.wheels.size(); w++) {
                if (turns(w)) {
                    turning.add(w);
                }
            }
            List<Integer> today = new ArrayList<>();
            for (int f = 0; f < told.feasts.size(); f++) {
                if (place(told.feasts.get(f)[0], 0) == told.feasts.get(f)[1]) {
                    today.add(f);
                }
            }
            int[] all = {told.wheels.size(), told.links.size(), told.feasts.size(), text.length(), now.day, now.mark,
                told.wheels.isEmpty() ? NONE : told.driven, told.r, binds() ? 1 : 0, bits(now.cut), bits(turning),
                stood.size(), book.size(), deeds.size(), bits(today)};
            return out(what, 0, 14) ? OUTSIDE : all[what];
        }

        int wheel(int w, int what) {
            if (noWheel(w)) {
                return UNKNOWN;
            }
            return switch (what) {
                case 0 -> teethOf(w);
                case 1 -> place(w, 0);
                case 2 -> rate(w).above.intValueExact();
                case 3 -> rate(w).below.intValueExact();
                default -> OUTSIDE;
            };
        }

        int link(int l, int what) {
            if (noLink(l)) {
                return UNKNOWN;
            }
            Link link = told.links.get(l);
            int[] all = {"mba".indexOf(link.kind), link.a, link.b, link.q, now.cut.contains(l) ? 0 : 1};
            return out(what, 0, 4) ? OUTSIDE : all[what];
        }

        int feast(int f, int what) {
            if (out(f, 0, told.feasts.size() - 1)) {
                return UNKNOWN;
            }
            return out(what, 0, 1) ? OUTSIDE : told.feasts.get(f)[what];
        }

        int stands(int w, int n) {
            return noWheel(w) ? UNKNOWN : out(n, 0, 99999) ? OUTSIDE : place(w, n);
        }

        // ---- days

        private void deed() {
            deeds.add(now.copy());
            if (deeds.size() > 30) {
                deeds.remove(0);
            }
        }

        private Stand marked() {
            int[] places = new int[now.places.length];
            for (int w = 0; w < places.length; w++) {
                places[w] = place(w, 0);
            }
            return new Stand(now.day, now.day, new HashSet<>(now.cut), places);
        }

        private void go(int n) {
            now = new Stand(now.day + n, now.mark, now.cut, now.places);
        }

        private void slipBy(int w, int n) {
            now = marked();
            now.places[w] = Math.floorMod(now.places[w] + n, teethOf(w));
        }

        private int draw(int n) {
            seed = (seed * 1103515245L + 12345L) % (1L << 31);
            return (int) (seed / 65536 % n);
        }

        int days(int n) {
            if (out(n, 1, 9999)) {
                return OUTSIDE;
            }
            if (binds()) {
                return NOT;
            }
            if (now.day > 900000) {
                return FULL;
            }
            deed();
            go(n);
            return now.day;
        }

        int cut(int l, boolean is) {
            if (noLink(l)) {
                return UNKNOWN;
            }
            boolean was = now.cut.contains(l);
            if (was != is) {
                deed();
                now = marked();
                if (is) {
                    now.cut.add(l);
                } else {
                    now.cut.remove(l);
                }
            }
            return was ? 0 : 1;
        }

        int slip(int w, int n) {
            if (noWheel(w)) {
                return UNKNOWN;
            }
            if (out(n, -99, 99)) {
                return OUTSIDE;
            }
            deed();
            slipBy(w, n);
            return place(w, 0);
        }

        int drift(int n) {
            if (out(n, 1, 99)) {
                return OUTSIDE;
            }
            if (binds() || told.wheels.isEmpty()) {
                return NOT;
            }
            if (now.day > 900000) {
                return FULL;
            }
            deed();
            for (int i = 0; i < n; i++) {
                if (draw(8) == 0) {
                    slipBy(draw(told.wheels.size()), 1);
                }
                go(1);
            }
            return now.day;
        }

        int undo(int n) {
            if (out(n, 1, 30)) {
                return OUTSIDE;
            }
            if (deeds.size() < n) {
                return NOT;
            }
            for (int i = 0; i < n; i++) {
                now = deeds.remove(deeds.size() - 1);
            }
            return now.day;
        }

        // ---- tried

        private int dayOf(List<int[]> feasts, int most) {
            Part[] rates = new Part[told.wheels.size()];
            for (int w = 0; w < rates.length; w++) {
                rates[w] = rate(w);
            }
            for (int n = 0; n <= most; n++) {
                boolean all = true;
                for (int[] feast : feasts) {
                    all = all && place(rates[feast[0]], feast[0], n) == feast[1];
                }
                if (all) {
                    return n;
                }
            }
            return NONE;
        }

        int next(int f) {
            return out(f, 0, told.feasts.size() - 1) ? UNKNOWN : dayOf(List.of(told.feasts.get(f)), 9999);
        }

        int together(int set) {
            List<int[]> feasts = new ArrayList<>();
            for (int k = 0; k < 32; k++) {
                if ((set >>> k & 1) == 1) {
                    if (k >= told.feasts.size()) {
                        return UNKNOWN;
                    }
                    feasts.add(told.feasts.get(k));
                }
            }
            return dayOf(feasts, 99999);
        }

        int again() {
            BigInteger all = BigInteger.ZERO;
            for (int w = 0; w < told.wheels.size(); w++) {
                if (turns(w)) {
                    // RATE by TEETH is turns a day: its below, in lowest terms, is how many days make turns whole
                    BigInteger own = rate(w).times(1, teethOf(w)).below;
                    all = all.signum() == 0 ? own : all.multiply(own).divide(all.gcd(own));
                }
            }
            return all.signum() == 0 || all.compareTo(BigInteger.valueOf(999999999)) > 0 ? NONE : all.intValueExact();
        }

        private static int pick(List<Integer> found, int i) {
            return i == NONE ? found.size() : i < 0 || i >= found.size() ? NONE : found.get(i);
        }

        int added(int w, int p, int n, int i) {
            if (noWheel(w)) {
                return UNKNOWN;
            }
            if (out(p, 0, 29) || out(n, 0, 9999)) {
                return OUTSIDE;
            }
            List<Integer> found = new ArrayList<>();
            for (int teeth = 3; teeth <= 30; teeth++) {
                if (Math.floorMod(rate(w).times(-n, 1).floor(), teeth) == p) {
                    found.add(teeth);
                }
            }
            return pick(found, i);
        }

        int alike(int a, int b) {
            if (noWheel(a) || noWheel(b) || a == b) {
                return UNKNOWN;
            }
            if (!turns(a) || !turns(b)) {
                return NOT;
            }
            return rate(a).above.signum() == rate(b).above.signum() ? 1 : 0;
        }

        private interface Try {
            boolean is(int set);
        }

        private int fewest(Try attempt, int what) {
            List<Integer> sets = new ArrayList<>();
            for (int set = 0; set < 1 << told.links.size(); set++) {
                if (attempt.is(set)) {
                    sets.add(set);
                }
            }
            sets.sort(Comparator.<Integer>comparingInt(Integer::bitCount).thenComparingInt(s -> s));
            return sets.isEmpty() ? NONE : what == 0 ? Integer.bitCount(sets.get(0)) : sets.get(0);
        }

        private boolean idle(int set, int a, int b) {
            List<Link> on = new ArrayList<>();
            for (int l = 0; l < told.links.size(); l++) {
                Link link = told.links.get(l);
                boolean is = (set >> l & 1) == 1;
                if (is && (link.kind != 'm' || now.cut.contains(l))) {
                    return false;
                }
                if (!now.cut.contains(l)) {
                    on.add(is ? new Link('b', link.a, link.b, link.q) : link);
                }
            }
            Part[] rates = rates(on);
            return rates != null && rates[a].above.signum() * rates[b].above.signum() == 1;
        }

        int idlers(int a, int b, int what) {
            if (noWheel(a) || noWheel(b) || a == b) {
                return UNKNOWN;
            }
            return out(what, 0, 1) ? OUTSIDE : fewest(set -> idle(set, a, b), what);
        }

        private boolean rests(int set, int resting) {
            Set<Integer> cut = new HashSet<>(now.cut);
            for (int l = 0; l < told.links.size(); l++) {
                if ((set >> l & 1) == 1 && !cut.add(l)) {
                    return false;
                }
            }
            Part[] rates = rates(on(cut));
            if (rates == null) {
                return false;
            }
            for (int w = 0; w < rates.length; w++) {
                if ((resting >> w & 1) == 1 && rates[w].above.signum() != 0) {
                    return false;
                }
            }
            return true;
        }

        int free(int what) {
            return out(what, 0, 1) ? OUTSIDE : fewest(set -> rests(set, 0), what);
        }

        int rest(int resting, int what) {
            if (resting < 0 || resting >= 1 << told.wheels.size()) {
                return UNKNOWN;
            }
            return out(what, 0, 1) ? OUTSIDE : fewest(set -> rests(set, resting), what);
        }

        int wear(int l, int what) {
            if (noLink(l)) {
                return UNKNOWN;
            }
            if (out(what, 0, 1)) {
                return OUTSIDE;
            }
            Link link = told.links.get(l);
            if (link.kind != 'm') {
                return NOT;
            }
            int a = teethOf(link.a);
            int b = teethOf(link.b);
            if (what == 0) {
                Set<Integer> met = new HashSet<>();
                for (int turn = 0; turn < 100; turn++) {
                    met.add(turn * a % b);
                }
                return met.size();
            }
            if (now.cut.contains(l) || !turns(link.a)) {
                return NONE;
            }
            int passing = a;
            while (passing % b != 0) {
                passing += a;
            }
            Part rate = rate(link.a);
            return new BigDecimal(BigInteger.valueOf(passing).multiply(rate.below))
                .divide(new BigDecimal(rate.above.abs()), 0, RoundingMode.CEILING).intValueExact();
        }

        private void rows(int at, int w, List<Integer> row, Set<Integer> seen, List<List<Integer>> all) {
            if (at == w) {
                all.add(new ArrayList<>(row));
                return;
            }
            for (int l = 0; l < told.links.size(); l++) {
                Link link = told.links.get(l);
                int to = link.a == at ? link.b : link.b == at ? link.a : NONE;
                if (to != NONE && !now.cut.contains(l) && seen.add(to)) {
                    row.add(l);
                    rows(to, w, row, seen, all);
                    row.remove(row.size() - 1);
                    seen.remove(to);
                }
            }
        }

        private static int inOrder(List<Integer> a, List<Integer> b) {
            if (a.size() != b.size()) {
                return a.size() - b.size();
            }
            for (int i = 0; i < a.size(); i++) {
                if (!a.get(i).equals(b.get(i))) {
                    return a.get(i) - b.get(i);
                }
            }
            return 0;
        }

        int slips(int w, int n) {
            if (noWheel(w)) {
                return UNKNOWN;
            }
            if (out(n, 0, 99)) {
                return OUTSIDE;
            }
            if (!turns(w)) {
                return 0;
            }
            List<List<Integer>> all = new ArrayList<>();
            rows(told.driven, w, new ArrayList<>(), new HashSet<>(Set.of(told.driven)), all);
            all.sort(Model::inOrder);
            long odds = 1000000000;
            for (int l : all.get(0)) {
                for (int day = 0; day < n; day++) {
                    odds = odds * (1000 - told.links.get(l).q) / 1000;
                }
            }
            return (int) odds;
        }

        int hidden(int w, int kind, int r, int i) {
            if (noWheel(w)) {
                return UNKNOWN;
            }
            if (out(kind, 0, 2) || out(r, -30, 30) || r == 0) {
                return OUTSIDE;
            }
            if (turns(w)) {
                return NOT;
            }
            List<Integer> found = new ArrayList<>();
            for (int a = 0; a < 8; a++) {
                for (int b = a + 1; b < told.wheels.size(); b++) {
                    if (turns(a) != turns(b)) {
                        List<Link> on = on(now.cut);
                        on.add(new Link("mba".charAt(kind), a, b, 0));
                        Part[] rates = rates(on);
                        if (rates != null && rates[w].equals(Part.of(r, 1))) {
                            found.add(100 * a + b);
                        }
                    }
                }
            }
            return pick(found, i);
        }

        // ---- what stood

        int stood(int w, int n, int place) {
            if (noWheel(w)) {
                return UNKNOWN;
            }
            if (out(n, 0, 999) || out(place, 0, 29)) {
                return OUTSIDE;
            }
            if (stood.size() == 12) {
                return FULL;
            }
            stood.add(new int[] {w, n, place});
            return stood.size();
        }

        private long placeWith(int w, int teeth, int n) {
            return Math.floorMod(place(w, 0) % teeth + rate(w).times(n, 1).floor(), (long) teeth);
        }

        private List<Integer> fitting(int w) {
            List<Integer> found = new ArrayList<>();
            for (int teeth = 3; teeth <= 30; teeth++) {
                boolean fits = true;
                for (int[] line : stood) {
                    fits = fits && (line[0] != w || placeWith(w, teeth, line[1]) == line[2]);
                }
                if (fits) {
                    found.add(teeth);
                }
            }
            return found;
        }

        int teeth(int w, int i) {
            return noWheel(w) ? UNKNOWN : pick(fitting(w), i);
        }

        int look(int w) {
            if (noWheel(w)) {
                return UNKNOWN;
            }
            List<Integer> fitting = fitting(w);
            int best = NONE;
            int least = HIGHEST;
            for (int day = 30; day >= 1; day--) {
                int greatest = 0;
                for (int place = 0; place < 30; place++) {
                    int alike = 0;
                    for (int teeth : fitting) {
                        alike += placeWith(w, teeth, day) == place ? 1 : 0;
                    }
                    greatest = Math.max(greatest, alike);
                }
                if (greatest <= least) {
                    least = greatest;
                    best = day;
                }
            }
            return least == fitting.size() ? NONE : best;
        }

        int write(int w, int n, int place) {
            if (noWheel(w)) {
                return UNKNOWN;
            }
            if (out(n, 0, 99999) || out(place, 0, 29)) {
                return OUTSIDE;
            }
            if (book.size() == 15) {
                return FULL;
            }
            book.add(new int[] {w, n, place});
            return book.size();
        }

        int judge() {
            for (int i = 0; i < book.size(); i++) {
                int[] line = book.get(i);
                if (place(line[0], line[1]) != line[2]) {
                    return i;
                }
            }
            return NONE;
        }

        int tear() {
            int both = stood.size() + book.size();
            stood.clear();
            book.clear();
            return both;
        }

        // ---- images

        int seed(int v) {
            if (v < 0) {
                return OUTSIDE;
            }
            int was = (int) seed;
            seed = v;
            return was;
        }

        int keep(int i) {
            if (out(i, 0, 1)) {
                return UNKNOWN;
            }
            images[i] = now.copy();
            imageSeeds[i] = seed;
            deeds.clear();
            return 1;
        }

        int goBack(int i) {
            if (out(i, 0, 1)) {
                return UNKNOWN;
            }
            if (images[i] == null) {
                return NOT;
            }
            now = images[i].copy();
            seed = imageSeeds[i];
            deeds.clear();
            return 1;
        }
    }

    private static final int HIGHEST = 1000;

    // ---- the draws: a row of numbers that is always the same

    private static long state;

    private static int draw(int n) {
        state = state * 6364136223846793005L + 1442695040888963407L;
        return (int) ((state >>> 33) % n);
    }

    /** A number mostly within its bounds, at times at an edge of them or far out. */
    private static int number(int least, int most) {
        int way = draw(80);
        if (way == 0) {
            return least - 1;
        }
        if (way == 1) {
            return most + 1;
        }
        if (way == 2) {
            int[] far = {Integer.MIN_VALUE, Integer.MAX_VALUE, -1, 0, -1000000000, 1 << 30, 31, 32, 64};
            return far[draw(far.length)];
        }
        if (way < 6) {
            return least;
        }
        if (way < 9) {
            return most;
        }
        return most < least ? least : least + (int) ((state >>> 20 & 0x7fffffff) % (most - least + 1L));
    }

    private static String drawnText() {
        int wheels = draw(12) == 0 ? draw(3) : 2 + draw(7);
        boolean isSmall = draw(3) == 0;
        StringBuilder text = new StringBuilder();
        int[] teeth = new int[wheels];
        for (int w = 0; w < wheels; w++) {
            teeth[w] = isSmall ? 3 + draw(4) * 3 : 3 + draw(28);
            text.append('w').append(teeth[w]).append(' ').append(draw(draw(4) == 0 ? 30 : teeth[w])).append(';');
        }
        int links = wheels < 2 ? 0 : draw(4) == 0 ? draw(11) : Math.min(draw(wheels + 1), 10);
        boolean isTree = draw(4) != 0;
        for (int l = 0; l < links; l++) {
            int b = isTree ? 1 + l % (wheels - 1) : draw(wheels);
            int a = isTree ? draw(b) : (b + 1 + draw(wheels - 1)) % wheels;
            boolean isTurned = draw(2) == 0;
            text.append('l').append("mmba".charAt(draw(4))).append(isTurned ? b : a).append(' ').append(isTurned ? a : b);
            text.append(' ').append(draw(3) == 0 ? draw(1000) : draw(30)).append(';');
        }
        if (wheels > 0 && draw(2) == 0) {
            text.append('d').append(draw(wheels)).append(' ').append(1 + draw(30)).append(';');
        }
        int feasts = wheels == 0 ? 0 : draw(7);
        for (int f = 0; f < feasts; f++) {
            int w = draw(wheels);
            text.append('f').append(w).append(' ').append(draw(teeth[w])).append(';');
        }
        return text.toString();
    }

    /** A text with a letter or two put in, left out or changed. */
    private static String spoilt(String text) {
        StringBuilder letters = new StringBuilder(text);
        String some = "wldfmba;; 0123456789  x";
        for (int i = draw(3); i >= 0; i--) {
            int at = draw(letters.length() + 1);
            char letter = some.charAt(draw(some.length()));
            int way = draw(3);
            if (way == 0 || at == letters.length()) {
                letters.insert(at, letter);
            } else if (way == 1) {
                letters.setCharAt(at, letter);
            } else {
                letters.deleteCharAt(at);
            }
        }
        return letters.toString();
    }

    // ---- both at once

    private static int wrong = 0;
    private static long calls = 0;
    private static int run;
    private static CogFamily x;
    private static Model y;

    private static void due(String call, int got, int want) {
        calls++;
        if (got != want) {
            wrong++;
            if (wrong < 40) {
                System.out.println("run " + run + ": " + call + " answered " + got + ", due is " + want);
            }
        }
    }

    private static void feedBoth(String text) {
        for (int i = 0; i < text.length(); i++) {
            due("feed(" + (int) text.charAt(i) + ")", x.feed(text.charAt(i)), y.feed(text.charAt(i)));
        }
        due("clock() of '" + text + "'", x.clock(), y.clock());
        due("fault() of '" + text + "'", x.fault(), y.faultPlace);
    }

    private static void callBoth() {
        int wheels = y.told.wheels.size();
        int links = y.told.links.size();
        int feasts = y.told.feasts.size();
        int w = number(0, wheels - 1);
        int v = number(0, wheels - 1);
        int l = number(0, links - 1);
        int f = number(0, feasts - 1);
        int what = number(0, 1);
        switch (draw(34)) {
            case 0 -> { int k = number(0, 14); due("told(" + k + ")", x.told(k), y.told(k)); }
            case 1 -> { int k = number(0, 3); due("wheel(" + w + ", " + k + ")", x.wheel(w, k), y.wheel(w, k)); }
            case 2 -> { int k = number(0, 4); due("link(" + l + ", " + k + ")", x.link(l, k), y.link(l, k)); }
            case 3 -> due("feast(" + f + ", " + what + ")", x.feast(f, what), y.feast(f, what));
            case 4 -> { int n = number(0, draw(2) == 0 ? 50 : 99999); due("stands(" + w + ", " + n + ")", x.stands(w, n), y.stands(w, n)); }
            case 5, 6 -> { int n = number(1, draw(2) == 0 ? 20 : 9999); due("days(" + n + ")", x.days(n), y.days(n)); }
            case 7, 8 -> { boolean is = draw(2) == 0; due("cut(" + l + ", " + is + ")", x.cut(l, is), y.cut(l, is)); }
            case 9 -> { int n = number(-99, 99); due("slip(" + w + ", " + n + ")", x.slip(w, n), y.slip(w, n)); }
            case 10 -> { int n = number(1, 99); due("drift(" + n + ")", x.drift(n), y.drift(n)); }
            case 11 -> { int n = number(1, draw(3) == 0 ? 30 : 3); due("undo(" + n + ")", x.undo(n), y.undo(n)); }
            case 12 -> due("next(" + f + ")", x.next(f), y.next(f));
            case 13 -> {
                int set = draw(3) == 0 ? number(0, (1 << feasts) - 1) : 1 << draw(7) | 1 << draw(7);
                if (draw(2) == 0) {
                    due("together(" + set + ")", x.together(set), y.together(set));
                }
            }
            case 14 -> {
                due("again()", x.again(), y.again());
                due("alike(" + v + ", " + w + ")", x.alike(v, w), y.alike(v, w));
            }
            case 15, 16 -> {
                int p = number(0, 29);
                int n = number(0, 9999);
                int i = draw(2) == 0 ? NONE : number(0, 4);
                due("added(" + w + ", " + p + ", " + n + ", " + i + ")", x.added(w, p, n, i), y.added(w, p, n, i));
            }
            case 17 -> due("alike(" + w + ", " + v + ")", x.alike(w, v), y.alike(w, v));
            case 18 -> due("idlers(" + w + ", " + v + ", " + what + ")", x.idlers(w, v, what), y.idlers(w, v, what));
            case 19 -> due("free(" + what + ")", x.free(what), y.free(what));
            case 20 -> { int set = number(0, (1 << wheels) - 1); due("rest(" + set + ", " + what + ")", x.rest(set, what), y.rest(set, what)); }
            case 21 -> due("wear(" + l + ", " + what + ")", x.wear(l, what), y.wear(l, what));
            case 22, 23 -> { int n = number(0, 99); due("slips(" + w + ", " + n + ")", x.slips(w, n), y.slips(w, n)); }
            case 24, 25 -> {
                int kind = number(0, 2);
                int r = number(-30, 30);
                if (draw(2) == 0) {
                    r = (draw(2) == 0 ? 1 : -1) * y.told.r;
                }
                int i = draw(2) == 0 ? NONE : number(0, 5);
                for (int k = 0; k < wheels && !y.noWheel(w) && y.turns(w); k++) {
                    w = (w + 1) % wheels;
                }
                due("hidden(" + w + ", " + kind + ", " + r + ", " + i + ")", x.hidden(w, kind, r, i), y.hidden(w, kind, r, i));
            }
            case 26, 27 -> {
                int n = number(0, 999);
                int place = number(0, 29);
                if (draw(3) != 0 && !y.noWheel(w) && n >= 0 && n < 1000) {
                    place = (int) y.placeWith(w, y.teethOf(w), n);
                }
                due("stood(" + w + ", " + n + ", " + place + ")", x.stood(w, n, place), y.stood(w, n, place));
            }
            case 28 -> { int i = draw(2) == 0 ? NONE : number(0, 10); due("teeth(" + w + ", " + i + ")", x.teeth(w, i), y.teeth(w, i)); }
            case 29 -> due("look(" + w + ")", x.look(w), y.look(w));
            case 30 -> {
                int n = number(0, 99999);
                int place = draw(8) == 0 || y.noWheel(w) || Model.out(n, 0, 99999) ? number(0, 29) : y.place(w, n);
                due("write(" + w + ", " + n + ", " + place + ")", x.write(w, n, place), y.write(w, n, place));
            }
            case 31 -> due("judge()", x.judge(), y.judge());
            case 32 -> {
                if (draw(3) == 0) {
                    due("tear()", x.tear(), y.tear());
                }
                int v2 = number(0, Integer.MAX_VALUE);
                due("seed(" + v2 + ")", x.seed(v2), y.seed(v2));
            }
            default -> {
                int i = number(0, 1);
                if (draw(3) != 0) {
                    break;
                }
                if (draw(2) == 0) {
                    due("keep(" + i + ")", x.keep(i), y.keep(i));
                } else {
                    due("goBack(" + i + ")", x.goBack(i), y.goBack(i));
                }
            }
        }
    }

    private static void compareAll() {
        for (int what = -1; what <= 15; what++) {
            due("told(" + what + ")", x.told(what), y.told(what));
        }
        for (int w = -1; w <= y.told.wheels.size(); w++) {
            for (int what = 0; what < 4; what++) {
                due("wheel(" + w + ", " + what + ")", x.wheel(w, what), y.wheel(w, what));
            }
        }
        for (int l = -1; l <= y.told.links.size(); l++) {
            for (int what = 0; what < 5; what++) {
                due("link(" + l + ", " + what + ")", x.link(l, what), y.link(l, what));
            }
        }
        for (int f = -1; f <= y.told.feasts.size(); f++) {
            due("feast(" + f + ", 0)", x.feast(f, 0), y.feast(f, 0));
            due("feast(" + f + ", 1)", x.feast(f, 1), y.feast(f, 1));
        }
    }

    private static void drawnRun() {
        x = new CogFamily();
        y = new Model();
        int texts = 1 + draw(3);
        for (int i = 0; i < texts; i++) {
            String text = drawnText();
            feedBoth(draw(12) == 0 ? spoilt(text) : text);
            int rows = 20 + draw(120);
            for (int k = 0; k < rows; k++) {
                callBoth();
                if (draw(10) == 0) {
                    compareAll();
                }
            }
            compareAll();
        }
    }

    /** Many texts that are spoilt, and little else. */
    private static void spoiltRun() {
        x = new CogFamily();
        y = new Model();
        for (int i = 0; i < 8; i++) {
            String text = spoilt(drawnText());
            feedBoth(text.length() > 250 ? text.substring(0, 250) : text);
            compareAll();
        }
    }

    public static void main(String[] args) {
        int runs = args.length > 0 ? Integer.parseInt(args[0]) : 250;
        state = args.length > 1 ? Long.parseLong(args[1]) : 20261119;
        for (run = 1; run <= runs; run++) {
            drawnRun();
            spoiltRun();
        }
        System.out.println("ModelRuns: " + calls + " answers looked at, " + wrong + " wrong");
        if (wrong > 0) {
            System.exit(1);
        }
    }
}
