import java.io.IOException;
import java.lang.reflect.InvocationTargetException;
import java.lang.reflect.Method;
import java.nio.charset.StandardCharsets;
import java.nio.file.Files;
import java.nio.file.Path;
import java.util.ArrayList;
import java.util.HashMap;
import java.util.List;
import java.util.Map;

/**
 * Each sentence of the document that names a boundary, in the document's order: the last value within it, the first one
 * outside it and, for a refused call, that all that later calls show is as it was.
 *
 * Calls are told as lines: "stands 0 7", "cut 1 true"; "30* days 1" is thirty of them, "text w3 0;" feeds letter by letter
 * (a | at its end is left out, so that blanks can stand there); behind = stands what is due.
 */
public final class EdgeTests {
    private static final int MOST_CALLS = 512;

    /** 0 turns 1 (mesh), 2 is on the axle of 1, 3 meshes with 2; 4 is by itself: RATES 3, -3, -15/2, 15/2, 0. */
    private static final String FAMILY = """
        text w12 0;w8 3;w20 19;w5 2;w9 1;lm0 1 5;la1 2 0;lm2 3 20;d0 3;f0 6;f2 0;f4 1;
        clock
        """;
    private static final String SMALL = """
        text w9 4;w7 1;w5 0;lm0 1 5;f0 4;
        clock
        """;
    /** 1 goes by half a tooth a day, 2 by half a tooth the other way; 3 RESTS. */
    private static final String HALVES = """
        text w10 0;w5 0;w5 0;w30 29;la0 1 0;lm1 2 0;
        clock
        """;
    /** Three that mesh in a round: it BINDS. */
    private static final String BOUND = """
        text w6 1;w9 2;w4 3;w10 4;lm0 1 0;lm1 2 0;lm2 0 0;lb2 3 7;f0 1;f3 5;
        clock
        """;
    /** A FAULT was found, and another text has begun. */
    private static final String TEXT_BEGUN = """
        text w9 4;w2
        clock
        text w5 4;w6|
        """;
    /** Nothing more can be kept: deeds, what STOOD, lines of THE BOOK; half teeth have come together since THE MARK. */
    private static final String RICH = FAMILY + """
        seed 7
        days 3
        slip 4 2
        keep 0
        cut 1 true
        days 5
        seed 99
        keep 1
        cut 0 true
        cut 1 false
        drift 9
        cut 0 false
        25* days 2
        slip 0 1
        days 1
        4* stood 1 3 2
        8* stood 4 999 3
        14* write 4 99999 3
        write 0 1 29
        """ + TEXT_BEGUN;
    /** A deed short of thirty, two short of what STOOD and of THE BOOK; IMAGE 0 alone was kept; LINK 2 is CUT, so 3 and 4 REST. */
    private static final String HALF_TOLD = FAMILY + """
        seed 9
        days 7
        keep 0
        cut 2 true
        slip 3 1
        26* slip 4 1
        days 1
        10* stood 0 1 2
        13* write 0 1 2
        """;
    private static final String HALF_RICH = HALF_TOLD + TEXT_BEGUN;
    private static final String BOUND_RICH = BOUND + """
        seed 9
        keep 0
        keep 1
        cut 1 true
        days 5
        slip 1 2
        cut 3 true
        cut 1 false
        stood 0 1 2
        write 0 1 2
        """ + TEXT_BEGUN;
    private static final String LATE = FAMILY + """
        90* days 9999
        days 90
        """;
    private static final String TOO_LATE = FAMILY + """
        seed 9
        keep 0
        keep 1
        cut 2 true
        90* days 9999
        days 91
        stood 0 1 2
        write 0 1 2
        """ + TEXT_BEGUN;
    private static final String TOO_LATE_AND_BOUND = BOUND + """
        cut 3 true
        cut 1 true
        90* days 9999
        days 91
        cut 1 false
        """ + TEXT_BEGUN;
    private static final String TOO_LATE_AND_EMPTY = """
        90* days 9999
        days 91
        """ + TEXT_BEGUN;
    private static final String NEW = "";

    // ---- calls told as lines

    private static final Map<String, Method> METHODS = methods();
    private static final Map<String, Call> CALLS = new HashMap<>();

    private record Call(Method method, Object[] arguments, int times) { }

    private static Map<String, Method> methods() {
        Map<String, Method> methods = new HashMap<>();
        for (Method method : CogFamily.class.getDeclaredMethods()) {
            if (java.lang.reflect.Modifier.isPublic(method.getModifiers())) {
                methods.put(method.getName(), method);
            }
        }
        return methods;
    }

    private static int number(String word) {
        return switch (word) {
            case "NONE" -> CogFamily.NONE;
            case "UNKNOWN" -> CogFamily.UNKNOWN;
            case "OUTSIDE" -> CogFamily.OUTSIDE;
            case "NOT" -> CogFamily.NOT;
            case "FULL" -> CogFamily.FULL;
            case "LOW" -> Integer.MIN_VALUE;
            case "HIGH" -> Integer.MAX_VALUE;
            default -> Integer.parseInt(word);
        };
    }

    private static Call call(String line) {
        String[] words = line.split(" ");
        boolean isRepeated = words[0].endsWith("*");
        int at = isRepeated ? 1 : 0;
        int times = isRepeated ? Integer.parseInt(words[0].substring(0, words[0].length() - 1)) : 1;
        Method method = METHODS.get(words[at]);
        if (method == null || method.getParameterCount() != words.length - at - 1) {
            throw new IllegalStateException("no such call: " + line);
        }
        Object[] arguments = new Object[method.getParameterCount()];
        for (int i = 0; i < arguments.length; i++) {
            String word = words[at + 1 + i];
            boolean isTruth = method.getParameterTypes()[i] == boolean.class;
            arguments[i] = isTruth ? (Object) Boolean.valueOf(word) : (Object) number(word);
        }
        return new Call(method, arguments, times);
    }

    /** An object and how many calls it has had. */
    private static final class Asked {
        private final CogFamily family = new CogFamily();
        private int calls = 0;

        Asked(String state) {
            for (String line : state.lines().toList()) {
                ask(line);
            }
        }

        int ask(String line) {
            if (line.startsWith("text ")) {
                return feed(line.substring(5));
            }
            Call call = CALLS.computeIfAbsent(line, EdgeTests::call);
            int answer = 0;
            for (int i = 0; i < call.times; i++) {
                count();
                try {
                    answer = (int) call.method.invoke(family, call.arguments);
                } catch (InvocationTargetException thrown) {
                    wrong.add(line + ": threw " + thrown.getCause());
                    return Integer.MIN_VALUE;
                } catch (IllegalAccessException closed) {
                    throw new IllegalStateException(closed);
                }
            }
            return answer;
        }

        private int feed(String text) {
            int answer = 0;
            for (char letter : (text.endsWith("|") ? text.substring(0, text.length() - 1) : text).toCharArray()) {
                count();
                answer = family.feed(letter);
            }
            return answer;
        }

        private void count() {
            calls++;
            if (calls > MOST_CALLS) {
                throw new IllegalStateException("more calls than the document promises anything for");
            }
        }
    }

    // ---- all that later calls show

    private static final List<String> LATER_BUT_TEXT = List.of(looks(), tried(), triedByWheels(), triedByDays(), lines(), undone(),
        image(0), image(1), drifted());
    private static final List<String> LATER = withText();
    private static final Map<String, List<Integer>> UNTOUCHED = new HashMap<>();

    private static List<String> withText() {
        List<String> all = new ArrayList<>(LATER_BUT_TEXT);
        all.add(textOn());
        return all;
    }

    private static String lineOf(Object... words) {
        StringBuilder line = new StringBuilder();
        for (Object word : words) {
            line.append(line.length() == 0 ? "" : " ").append(word);
        }
        return line.append('\n').toString();
    }

    private static String stand() {
        StringBuilder lines = new StringBuilder();
        for (int what = 0; what <= 14; what++) {
            lines.append(what == 3 ? "" : lineOf("told", what));
        }
        for (int w = 0; w < 6; w++) {
            lines.append(lineOf("wheel", w, 1)).append(lineOf("wheel", w, 2)).append(lineOf("wheel", w, 3));
        }
        return lines.toString();
    }

    private static String looks() {
        StringBuilder lines = new StringBuilder(stand());
        for (int i = 0; i < 6; i++) {
            lines.append(lineOf("wheel", i, 0)).append(lineOf("feast", i, 0)).append(lineOf("feast", i, 1));
            lines.append(lineOf("stands", i, 1)).append(lineOf("stands", i, 99999));
        }
        for (int l = 0; l < 5; l++) {
            for (int what = 0; what < 5; what++) {
                lines.append(lineOf("link", l, what));
            }
        }
        return lines.append("judge\n").toString();
    }

    private static String tried() {
        StringBuilder lines = new StringBuilder("again\nfree 0\nfree 1\n");
        for (int f = 0; f < 4; f++) {
            lines.append(lineOf("next", f)).append(lineOf("together", 1 << f)).append(lineOf("together", 7 & ~(1 << f)));
        }
        for (int l = 0; l < 5; l++) {
            lines.append(lineOf("wear", l, 0)).append(lineOf("wear", l, 1));
        }
        return lines.toString();
    }

    private static String triedByWheels() {
        StringBuilder lines = new StringBuilder();
        for (int a = 0; a < 5; a++) {
            for (int b = a + 1; b < 5; b++) {
                lines.append(lineOf("alike", a, b)).append(lineOf("idlers", a, b, 0)).append(lineOf("idlers", a, b, 1));
            }
            lines.append(lineOf("rest", 1 << a, 0)).append(lineOf("rest", 1 << a, 1));
        }
        return lines.toString();
    }

    private static String triedByDays() {
        StringBuilder lines = new StringBuilder();
        for (int w = 0; w < 5; w++) {
            lines.append(lineOf("added", w, 2, 3, -1)).append(lineOf("slips", w, 20));
            lines.append(lineOf("hidden", w, 0, 3, -1)).append(lineOf("hidden", w, 0, -3, 0)).append(lineOf("hidden", w, 1, 3, -1));
        }
        return lines.toString();
    }

    private static String lines() {
        StringBuilder lines = new StringBuilder();
        for (int w = 0; w < 5; w++) {
            lines.append(lineOf("teeth", w, -1)).append(lineOf("teeth", w, 0)).append(lineOf("look", w));
        }
        lines.append("judge\nstood 0 1 2\nwrite 0 1 2\nteeth 0 -1\njudge\nstood 0 1 2\nwrite 0 1 2\nstood 0 1 2\nwrite 0 1 2\n");
        return lines.append("told 11\ntold 12\ntear\njudge\nteeth 1 -1\ntold 11\ntold 12\n").toString();
    }

    private static String undone() {
        StringBuilder lines = new StringBuilder();
        for (int i = 0; i < 31; i++) {
            lines.append("undo 1\ntold 5\ntold 9\nwheel 0 1\nwheel 3 1\nwheel 4 1\n");
        }
        return lines.append("seed 0\n").toString();
    }

    private static String image(int i) {
        return lineOf("goBack", i) + stand() + "seed 0\n";
    }

    private static String drifted() {
        return "seed 4\nseed 4\ndrift 40\n" + stand() + "slip 1 -9\nundo 1\n" + stand();
    }

    private static String textOn() {
        return "fault\ntold 3\ntext 0;\ntold 3\nclock\nfault\n" + looks() + image(0);
    }

    private static List<Integer> answers(Asked x, String later) {
        List<Integer> answers = new ArrayList<>();
        for (String line : later.lines().toList()) {
            answers.add(x.ask(line));
        }
        return answers;
    }

    /** Some calls leave all that later calls show as it was. */
    private static void asItWas(String state, String lines, List<String> later) {
        for (String calls : later) {
            List<Integer> untouched = UNTOUCHED.computeIfAbsent(state + calls, k -> answers(new Asked(state), calls));
            Asked x = new Asked(state);
            answers(x, lines);
            List<Integer> touched = answers(x, calls);
            List<String> asked = calls.lines().toList();
            for (int i = 0; i < asked.size(); i++) {
                if (!untouched.get(i).equals(touched.get(i))) {
                    due(lines + " changes what shows: " + asked.get(i), touched.get(i), untouched.get(i));
                    return;
                }
            }
        }
        checks++;
    }

    // ---- what a sentence asks

    private static final List<String> wrong = new ArrayList<>();
    private static String document = "";
    private static String sentence = "";
    private static int checks = 0;
    private static int sentences = 0;

    private static void due(String what, int got, int want) {
        checks++;
        if (got != want) {
            wrong.add("'" + sentence + "': " + what + ": answered " + got + ", due is " + want);
        }
    }

    /** What comes behind is due by this sentence; it must stand so in the document. */
    private static void says(String quote) {
        sentence = quote;
        sentences++;
        if (!document.contains(quote)) {
            wrong.add("'" + quote + "': does not stand in the document");
        }
    }

    /** A row of calls on one object. */
    private static void holds(String state, String rows) {
        Asked x = new Asked(state);
        for (String row : rows.lines().toList()) {
            int at = row.lastIndexOf(" = ");
            if (at < 0) {
                x.ask(row);
            } else {
                due(row.substring(0, at), x.ask(row.substring(0, at)), number(row.substring(at + 3)));
            }
        }
    }

    /** So it is when all is full, and when something has room. */
    private static void refuses(String refusal, String calls) {
        refuses(refusal, RICH, calls);
        refuses(refusal, HALF_RICH, calls);
    }

    /** Each call on an object of its own; behind it all is as it was. */
    private static void refuses(String refusal, String state, String calls) {
        for (String line : calls.lines().toList()) {
            due(line, new Asked(state).ask(line), number(refusal));
            asItWas(state, line, LATER);
        }
    }

    private static void changesNothing(String state, String calls) {
        for (String line : calls.lines().toList()) {
            asItWas(state, line, LATER);
        }
    }

    /** Rows of a FAULT's number, its place and the text. */
    private static void faulty(String rows) {
        for (String row : rows.lines().toList()) {
            String[] parts = row.split(" ", 3);
            Asked x = new Asked(SMALL);
            x.ask("text " + parts[2]);
            due("clock of '" + parts[2] + "'", x.ask("clock"), -10 - number(parts[0]));
            due("fault of '" + parts[2] + "'", x.ask("fault"), number(parts[1]));
            due("letters behind '" + parts[2] + "'", x.ask("told 3"), 0);
            due("WHEELS behind '" + parts[2] + "'", x.ask("told 0"), 3);
        }
    }

    /** Texts without a FAULT, each with a call and its answer ahead of it. */
    private static void sound(String rows) {
        for (String row : rows.lines().toList()) {
            String[] parts = row.split(": ", 2);
            int at = parts[0].lastIndexOf(" = ");
            Asked x = new Asked(SMALL);
            x.ask("text " + parts[1]);
            x.ask("clock");
            due("fault of '" + parts[1] + "'", x.ask("fault"), CogFamily.NONE);
            due(parts[0].substring(0, at) + " of '" + parts[1] + "'", x.ask(parts[0].substring(0, at)), number(parts[0].substring(at + 3)));
        }
    }

    // ---- terms

    private static void terms() {
        says("An object is used for at most 512 calls after it has been made");
        holds(NEW, """
            250* feed 32
            clock = 0
            259* days 9999
            days 1 = FULL
            told 4 = 909909
            """);

        says("What has a number has it from 0 on, as it comes.");
        holds(SMALL, """
            wheel -1 0 = UNKNOWN
            wheel 0 0 = 9
            wheel 1 0 = 7
            wheel 2 0 = 5
            wheel 3 0 = UNKNOWN
            link -1 2 = UNKNOWN
            link 0 2 = 1
            link 1 2 = UNKNOWN
            feast -1 1 = UNKNOWN
            feast 0 1 = 4
            feast 1 1 = UNKNOWN
            """);

        says("A SET is a whole number, bit k for k.");
        holds(FAMILY, """
            cut 0 true = 1
            told 9 = 1
            cut 2 true = 1
            told 9 = 5
            told 10 = 1
            told 14 = 4
            rest 16 0 = 0
            together 4 = 0
            """);

        says("They are far below all that is counted: -1000000001 and on.");
        due("NONE", CogFamily.NONE, -1);
        due("UNKNOWN", CogFamily.UNKNOWN, -1000000001);
        due("OUTSIDE", CogFamily.OUTSIDE, -1000000002);
        due("NOT", CogFamily.NOT, -1000000003);
        due("FULL", CogFamily.FULL, -1000000004);

        says("Parts are in lowest terms, what is below the line 1 or more.");
        holds(HALVES, """
            wheel 1 2 = 1
            wheel 1 3 = 2
            wheel 2 2 = -1
            wheel 2 3 = 2
            wheel 3 2 = 0
            wheel 3 3 = 1
            """);
        sound("""
            wheel 2 2 = -5: w30 0;w25 0;w3 0;la0 1 0;lm1 2 0;d0 6;
            wheel 2 3 = 1: w30 0;w25 0;w3 0;la0 1 0;lm1 2 0;d0 6;
            wheel 2 3 = 6: w30 0;w25 0;w3 0;la0 1 0;lm1 2 0;d0 1;
            """);
    }

    private static void orderOfRefusals() {
        says("REFUSALS, of several the first in this order");
        refuses("UNKNOWN", """
            wheel 5 4
            link 3 5
            feast 3 2
            stands 5 100000
            slip 5 100
            added 5 30 0 NONE
            added 5 0 10000 NONE
            alike 4 4
            alike 4 5
            alike 5 4
            idlers 5 0 2
            idlers 1 1 2
            rest 32 2
            wear 3 2
            slips 5 100
            hidden 5 3 1 NONE
            hidden 5 0 0 NONE
            stood 5 1000 0
            stood 5 0 30
            write 5 100000 0
            write 5 0 30
            """);
        refuses("UNKNOWN", """
            stood 5 0 0
            stood 5 -1 30
            write 5 0 0
            write -1 100000 -1
            """);
        refuses("OUTSIDE", """
            stood 4 1000 0
            stood 4 0 30
            write 4 100000 0
            write 4 0 30
            wear 1 2
            wear 1 -1
            hidden 0 3 1 NONE
            hidden 0 0 31 NONE
            hidden 0 2 0 NONE
            """);
        refuses("OUTSIDE", BOUND_RICH, """
            days 0
            days 10000
            drift 0
            drift 100
            undo 0
            undo 31
            """);
        refuses("OUTSIDE", NEW, """
            drift 0
            drift 100
            undo 0
            undo 31
            """);
        refuses("OUTSIDE", TOO_LATE, """
            days 0
            days 10000
            drift 0
            drift 100
            """);
        refuses("OUTSIDE", TOO_LATE_AND_BOUND, """
            days 10000
            drift 100
            """);
        refuses("NOT", TOO_LATE_AND_BOUND, """
            days 1
            drift 1
            """);
        refuses("NOT", TOO_LATE_AND_EMPTY, """
            drift 1
            drift 99
            """);
        refuses("FULL", TOO_LATE_AND_EMPTY, "days 1");
    }

    private static void refusedInARow() {
        says("What is refused changes nothing.");
        String all = """
            feed 256
            told 15
            wheel 5 0
            link 2 5
            feast 3 0
            stands 0 100000
            days 10000
            cut 3 true
            slip 0 100
            drift 0
            undo 31
            next 3
            together 8
            added 0 30 0 NONE
            alike 1 1
            idlers 0 1 2
            free 2
            rest 32 0
            wear 1 0
            slips 0 100
            hidden 0 0 1 NONE
            stood 0 1000 0
            teeth 5 NONE
            look 5
            write 0 0 30
            seed -1
            keep 2
            goBack 2
            """;
        asItWas(HALF_RICH, all + all, LATER);
        asItWas(RICH, all + all + "stood 0 0 0\nwrite 0 0 0\n", LATER);
    }

    private static void unknownOnes() {
        says("UNKNOWN (a WHEEL, LINK, FEAST, IMAGE that there is not; one twice; bits of such)");
        String[] wheels = {"wheel # 0", "stands # 0", "slip # 0", "added # 0 0 NONE", "alike # 0", "alike 0 #", "idlers # 0 0",
            "idlers 0 # 0", "slips # 0", "hidden # 0 1 NONE", "stood # 0 0", "teeth # NONE", "look #", "write # 0 0"};
        String[] links = {"link # 0", "cut # true", "cut # false", "wear # 0"};
        String[] feasts = {"feast # 0", "next #"};
        String[] images = {"keep #", "goBack #"};
        forEachFull(wheels, "-1", "5", "8", "32", "LOW", "HIGH");
        forEachFull(links, "-1", "3", "10", "32", "LOW", "HIGH");
        forEachFull(feasts, "-1", "3", "6", "32", "LOW", "HIGH");
        forEachFull(images, "-1", "2", "32", "LOW", "HIGH");
        forEach(NEW, wheels, "-1", "0");
        forEach(NEW, links, "-1", "0");
        forEach(NEW, feasts, "-1", "0");
        forEach(NEW, images, "-1", "2");
        forEachFull(new String[] {"alike # #", "idlers # # 0", "idlers # # 1"}, "0", "4");
        forEachFull(new String[] {"together #"}, "8", "9", "64", "128", "1073741824", "-1", "LOW", "HIGH");
        forEachFull(new String[] {"rest # 0", "rest # 1"}, "32", "33", "256", "1073741824", "-1", "LOW", "HIGH");
        forEach(NEW, new String[] {"together #", "rest # 0", "rest # 1"}, "1", "-1", "LOW", "HIGH");
        String eight = "text w3 0;w3 0;w3 0;w3 0;w3 0;w3 0;w3 0;w3 0;f0 0;f0 0;f0 0;f0 0;f0 0;f0 0;\nclock\n";
        forEach(eight, new String[] {"rest # 0"}, "256", "257", "LOW");
        forEach(eight, new String[] {"together #"}, "64", "65", "LOW");
        holds(eight, """
            rest 254 0 = 0
            rest 255 0 = NONE
            together 63 = 0
            wheel 7 0 = 3
            """);
    }

    private static void forEach(String state, String[] calls, String... values) {
        for (String call : calls) {
            for (String value : values) {
                refuses("UNKNOWN", state, call.replace("#", value));
            }
        }
    }

    private static void forEachFull(String[] calls, String... values) {
        forEach(RICH, calls, values);
        forEach(HALF_RICH, calls, values);
    }

    // ---- the text

    private static void wheelsAndLinks() {
        says("THE CLOCK is told in a text (250 letters at most)");
        holds(NEW, """
            249* feed 32 = 249
            feed 32 = 250
            feed 32 = FULL
            told 3 = 250
            clock = 0
            feed 32 = 1
            """);
        holds(NEW, """
            text w3 2;|
            244* feed 32
            feed 59 = 250
            clock = -11
            fault = 249
            """);

        says("'w' T S ';' (8 WHEELS at most: TEETH T 3 .. 30; START S 0 .. 29, left over by T)");
        sound("""
            wheel 0 0 = 3: w3 0;
            wheel 0 0 = 30: w30 0;
            wheel 0 1 = 0: w30 0;
            wheel 0 1 = 29: w30 29;
            wheel 0 1 = 2: w3 2;
            wheel 0 1 = 0: w3 3;
            wheel 0 1 = 2: w3 29;
            wheel 0 1 = 0: w29 29;
            wheel 0 1 = 28: w29 28;
            told 0 = 8: w3 0;w3 0;w3 0;w3 0;w3 0;w3 0;w3 0;w4 0;
            wheel 7 0 = 4: w3 0;w3 0;w3 0;w3 0;w3 0;w3 0;w3 0;w4 0;
            """);
        faulty("""
            2 1 w2 0;
            2 1 w0 0;
            2 1 w31 0;
            2 1 w300 0;
            2 3 w3 30;
            2 4 w30 30;
            2 3 w3 100;
            3 40 w3 0;w3 0;w3 0;w3 0;w3 0;w3 0;w3 0;w3 0;w3 0;
            """);

        says("'l' K A B Q ';' (10 LINKS at most, between unlike WHEELS told ahead: KIND K 'm' they mesh, 'b' a belt, 'a' on one axle; "
            + "it SLIPS by Q of a thousand, 0 .. 999)");
        sound("""
            link 0 0 = 0: w3 0;w4 0;lm0 1 0;
            link 0 0 = 1: w3 0;w4 0;lb0 1 0;
            link 0 0 = 2: w3 0;w4 0;la0 1 0;
            link 0 1 = 0: w3 0;w4 0;la0 1 0;
            link 0 2 = 1: w3 0;w4 0;la0 1 0;
            link 0 1 = 1: w3 0;w4 0;la1 0 0;
            link 0 2 = 0: w3 0;w4 0;la1 0 0;
            link 0 3 = 0: w3 0;w4 0;la1 0 0;
            link 0 3 = 999: w3 0;w4 0;la1 0 999;
            told 1 = 10: w3 0;w4 0;la0 1 0;la0 1 0;la0 1 0;la0 1 0;la0 1 0;la0 1 0;la0 1 0;la0 1 0;la0 1 0;la0 1 7;
            link 9 3 = 7: w3 0;w4 0;la0 1 0;la0 1 0;la0 1 0;la0 1 0;la0 1 0;la0 1 0;la0 1 0;la0 1 0;la0 1 0;la0 1 7;
            """);
        faulty("""
            1 11 w3 0;w4 0;lc0 1 0;
            1 11 w3 0;w4 0;ln0 1 0;
            1 11 w3 0;w4 0;lM0 1 0;
            1 11 w3 0;w4 0;l0 1 0;
            2 12 w3 0;w4 0;lm2 0 0;
            2 14 w3 0;w4 0;lm0 2 0;
            2 12 w3 0;w4 0;lm2 2 0;
            4 14 w3 0;w4 0;lm0 0 0;
            4 14 w3 0;w4 0;lm1 1 0;
            2 2 lm0 1 0;w3 0;w4 0;
            2 9 w3 0;lm0 1 0;w4 0;
            2 16 w3 0;w4 0;lm0 1 1000;
            1 16 w3 0;w4 0;lm0 1 -1;
            1 15 w3 0;w4 0;lm0 1;
            3 90 w3 0;w4 0;la0 1 0;la0 1 0;la0 1 0;la0 1 0;la0 1 0;la0 1 0;la0 1 0;la0 1 0;la0 1 0;la0 1 7;la0 1 0;
            """);
    }

    private static void drivenAndFeasts() {
        says("'d' W R ';' (WHEEL W, told ahead, is driven by R TEETH a day, 1 .. 30; untold: WHEEL 0 by 1; once)");
        sound("""
            told 6 = 1: w3 0;w4 0;d1 30;
            told 7 = 30: w3 0;w4 0;d1 30;
            wheel 1 2 = 30: w3 0;w4 0;d1 30;
            wheel 0 2 = 0: w3 0;w4 0;d1 30;
            told 7 = 1: w3 0;w4 0;d1 1;
            told 6 = 0: w3 0;w4 0;
            told 7 = 1: w3 0;w4 0;
            wheel 0 2 = 1: w3 0;w4 0;
            told 6 = 0: w3 0;d0 2;w4 0;
            told 7 = 2: w3 0;d0 2;w4 0;
            """);
        faulty("""
            2 13 w3 0;w4 0;d1 0;
            2 13 w3 0;w4 0;d1 31;
            2 11 w3 0;w4 0;d2 1;
            2 6 w3 0;d1 1;w4 0;
            2 1 d0 1;w3 0;
            3 15 w3 0;w4 0;d1 1;d1 1;
            3 20 w3 0;w4 0;d1 1;w5 0;d0 2;
            """);

        says("'f' W P ';' (6 FEASTS at most: when WHEEL W, told ahead, stands at P, 0 .. 29)");
        sound("""
            feast 0 0 = 0: w30 0;f0 29;
            feast 0 1 = 29: w30 0;f0 29;
            feast 0 1 = 0: w3 0;f0 0;
            feast 0 1 = 2: w3 0;f0 2;
            feast 0 0 = 1: w3 0;w4 0;f1 3;
            told 2 = 6: w3 0;f0 0;f0 0;f0 0;f0 0;f0 0;f0 2;
            feast 5 1 = 2: w3 0;f0 0;f0 0;f0 0;f0 0;f0 0;f0 2;
            """);
        faulty("""
            2 9 w30 0;f0 30;
            4 8 w3 0;f0 3;
            4 8 w3 0;f0 29;
            2 8 w3 0;f0 30;
            4 9 w29 0;f0 29;
            2 6 w3 0;f1 0;
            2 6 w3 0;f1 0;w4 0;
            2 1 f0 0;w3 0;
            3 35 w3 0;f0 0;f0 0;f0 0;f0 0;f0 0;f0 2;f0 0;
            """);
    }

    private static void lettersOfTexts() {
        says("NUMBERS have one to three figures");
        sound("""
            wheel 0 0 = 3: w3 2;
            wheel 0 0 = 3: w03 02;
            wheel 0 1 = 2: w003 002;
            wheel 0 0 = 30: w030 2;
            link 0 3 = 7: w3 0;w4 0;lm000 001 007;
            told 7 = 9: w3 0;d000 009;
            feast 0 1 = 2: w3 0;f000 002;
            """);
        faulty("""
            2 1 w0003 0;
            2 1 w00003 0;
            2 3 w3 0000;
            2 1 w4294967299 0;
            2 1 w18446744073709551619 0;
            2 12 w3 0;w4 0;lm0000 1 0;
            2 14 w3 0;w4 0;lm0 0001 0;
            2 16 w3 0;w4 0;lm0 1 0000;
            2 16 w3 0;w4 0;lm0 1 4294967296;
            2 6 w3 0;d0000 1;
            2 8 w3 0;d0 0001;
            2 6 w3 0;f0000 1;
            2 8 w3 0;f0 0001;
            """);

        says("a word, a KIND is one letter");
        faulty("""
            1 1 ww3 0;
            1 1 wheel3 0;
            1 12 w3 0;w4 0;lmm0 1 0;
            1 6 w3 0;dd0 1;
            1 6 w3 0;fw0 1;
            """);

        says("blanks (32) may stand anywhere but within NUMBERS; two NUMBERS side by side need one");
        sound("""
            told 0 = 2:  w 3 0 ; w  4   1 ; l m 0 1 5 ; d 0 1 ; f 0 2 ; |
            link 0 3 = 5:  w 3 0 ; w  4   1 ; l m 0 1 5 ; d 0 1 ; f 0 2 ; |
            link 0 3 = 5: w3 0;w4 1;lm0 1 5;d0 1;f0 2;
            told 2 = 1: w3 0;w4 1;lm0 1 5;d0 1;f0 2;
            """);
        faulty("""
            1 3 w30;
            1 5 w3 0 2;
            2 1 w1 2 0;
            1 16 w3 0;w4 0;lm01 0;
            2 12 w3 0;w4 0;lm10 0;
            1 1 w\t3 0;
            1 2 w3\t0;
            1 4 w3 0\t;
            1 5 w3 0;\t
            1 0 \0
            1 5 w3 0;\037
            1 5 w3 0;!
            1 5 w3 0;\240
            1 4 w3 0,
            """);
    }

    private static void faults() {
        says("FAULTS, at the first letter that has one (the end at the text's length), of these the least");
        faulty("""
            1 1 w
            1 2 w |
            1 2 w3
            1 3 w3 |
            1 4 w3 0
            1 5 w3 0 |
            2 1 w2
            2 3 w3 30
            1 6 w3 0;l
            1 6 w3 0;d
            1 7 w3 0;d0
            1 6 w3 0;f
            1 7 w3 0;f0
            1 9 w3 0;f0 2
            4 8 w3 0;f0 3
            2 14 w3 0;w4 0;lm0 0000 0;
            2 8 w3 0;f0 30;
            2 8 w3 0;f0 0003;
            4 8 w3 0;f0 3 x
            2 1 w2 x
            1 0 xw2 0;
            3 40 w3 0;w3 0;w3 0;w3 0;w3 0;w3 0;w3 0;w3 0;w
            3 40 w3 0;w3 0;w3 0;w3 0;w3 0;w3 0;w3 0;w3 0;w2 x
            """);
        holds(SMALL, """
            text w3 0|
            246* feed 32
            clock = -11
            fault = 250
            """);

        says("1 it cannot stand there (a letter that is no word, no KIND)");
        faulty("""
            1 0 x
            1 0 W3 0;
            1 0 ;
            1 0 3
            1 0 m
            1 0 \377
            1 1 w;
            1 1 wx
            1 2 w3;
            1 2 w3x
            1 3 w3 x
            1 5 w3 0;;
            1 5 w3 0;3
            1 11 w3 0;w4 0;lw0 1 0;
            1 6 w3 0;d;
            1 7 w3 0;d0;
            1 6 w3 0;f;
            1 7 w3 0;f0;
            1 10 w3 0;f0 0 0;
            """);

        says("2 a NUMBER of four figures or more, or out of its bounds; a WHEEL that was not told yet (at its first)");
        faulty("""
            2 2 w 0030 0;
            2 5 w30  030 0;
            2 1 w999 0;
            2 17 w3 0;w4 0;lm 0   2 0;
            2 16 w3 0;w4 0;lm0 1 9990;
            2 11 w3 0;w4 0;f2 9;
            """);

        says("3 a ninth 'w', an eleventh 'l', a seventh 'f', 'd' again (at it)");
        faulty("""
            3 41 w3 0;w3 0;w3 0;w3 0;w3 0;w3 0;w3 0;w3 0; w3 0;
            3 91 w3 0;w4 0;lm0 1 0;lm0 1 0;lm0 1 0;lm0 1 0;lm0 1 0;lm0 1 0;lm0 1 0;lm0 1 0;lm0 1 0;lm0 1 0; lx
            3 36 w3 0;f0 0;f0 0;f0 0;f0 0;f0 0;f0 0; f9
            3 11 w3 0;d0 1; d0 1;
            """);

        says("4 B like A (at the B); P of T or more (at the P)");
        faulty("""
            4 14 w3 0;w4 0;lm1 01 0;
            4 15 w3 0;w4 0;lm1  1 0;
            4 14 w3 0;w4 0;lb0 0 0;
            4 14 w3 0;w4 0;la0 0 0;
            4 9 w3 0;f0  4;
            4 13 w3 0;w9 0;f1 9;
            """);

        says("An empty text (or of blanks alone): no WHEELS.");
        holds(FAMILY, """
            clock = 0
            fault = NONE
            told 0 = 0
            told 1 = 0
            told 2 = 0
            told 6 = NONE
            told 7 = 1
            wheel 0 0 = UNKNOWN
            """);
        holds(FAMILY, """
            250* feed 32
            clock = 0
            fault = NONE
            told 0 = 0
            """);
    }

    // ---- links, rates, binding, places, feasts

    private static void rates() {
        says("A LINK is ON (all are at first), or CUT.");
        holds(FAMILY, """
            told 9 = 0
            link 0 4 = 1
            link 1 4 = 1
            link 2 4 = 1
            cut 2 true
            link 2 4 = 0
            link 1 4 = 1
            told 9 = 4
            """);

        says("TEETH a day by which it turns (below 0: the other way): of the driven one R; by a LINK that is ON, from one that turns: "
            + "'m' as many, the other way; 'b' as many, the same way; 'a' as many turns: RATE times its TEETH by those of the other one.");
        sound("""
            wheel 1 2 = -30: w3 0;w4 0;lm0 1 0;d0 30;
            wheel 1 2 = 30: w3 0;w4 0;lb0 1 0;d0 30;
            wheel 1 2 = 40: w3 0;w4 0;la0 1 0;d0 30;
            wheel 0 2 = 21: w3 0;w4 0;la0 1 0;d1 28;
            wheel 0 2 = -1: w3 0;w4 0;lm0 1 0;d1 1;
            wheel 1 2 = 4: w3 0;w4 0;la1 0 0;
            wheel 1 3 = 3: w3 0;w4 0;la1 0 0;
            """);
        holds("text w3 0;w30 0;w3 0;w30 0;w3 0;w30 0;w3 0;w29 0;la0 1 0;lm1 2 0;la2 3 0;lm3 4 0;la4 5 0;lm5 6 0;la6 7 0;d0 30;\nclock\n", """
            wheel 7 2 = -290000
            wheel 7 3 = 1
            stands 7 1 = 0
            stands 6 99999 = 0
            """);
        holds("text w30 0;w3 0;w30 0;w3 0;w30 0;w3 0;w30 0;w7 0;la0 1 0;lm1 2 0;la2 3 0;lm3 4 0;la4 5 0;lm5 6 0;la6 7 0;d0 1;\nclock\n", """
            wheel 7 2 = -7
            wheel 7 3 = 30000
            stands 7 0 = 0
            stands 7 1 = 6
            stands 7 4285 = 6
            stands 7 4286 = 5
            """);

        says("Who is not come to so RESTS (RATE 0).");
        holds(FAMILY, """
            wheel 4 2 = 0
            wheel 4 3 = 1
            told 10 = 15
            cut 1 true
            wheel 2 2 = 0
            wheel 3 2 = 0
            told 10 = 3
            stands 3 99999 = 2
            """);

        says("It BINDS, if by some LINK that is ON two that turn would have to turn otherwise than they do; nothing turns then "
            + "(all RATES are 0).");
        holds(BOUND, """
            told 8 = 1
            told 10 = 0
            wheel 0 2 = 0
            wheel 0 3 = 1
            wheel 3 2 = 0
            stands 0 99999 = 1
            cut 2 true
            told 8 = 0
            told 10 = 15
            cut 2 false
            told 8 = 1
            """);
        sound("""
            told 8 = 1: w6 0;w6 0;lm0 1 0;lb0 1 0;
            told 8 = 0: w6 0;w6 0;lm0 1 0;lm1 0 0;
            told 8 = 0: w6 0;w6 0;lb0 1 0;la0 1 0;
            told 8 = 1: w6 0;w7 0;lb0 1 0;la0 1 0;
            told 8 = 0: w6 0;w7 0;la1 0 0;la0 1 0;
            told 8 = 0: w6 0;w6 0;w6 0;lm1 2 0;lb1 2 0;
            told 8 = 1: w6 0;w6 0;w6 0;lm1 2 0;lb1 2 0;d2 1;
            told 8 = 0: w6 0;w3 0;w4 0;w8 0;la0 1 0;lm1 2 0;la2 3 0;lm3 0 0;
            told 8 = 1: w6 0;w3 0;w4 0;w9 0;la0 1 0;lm1 2 0;la2 3 0;lm3 0 0;
            """);
    }

    private static void places() {
        says("as it stood at THE MARK (day 0 at first), and RATE times the days since THE MARK (cut downwards), left over by TEETH "
            + "(0 to T less 1)");
        holds("text w5 4;w5 0;lm0 1 0;\nclock\n", """
            told 5 = 0
            wheel 0 1 = 4
            stands 0 1 = 0
            stands 0 5 = 4
            wheel 1 1 = 0
            stands 1 1 = 4
            stands 1 5 = 0
            stands 1 6 = 4
            """);
        holds(HALVES, """
            stands 1 1 = 0
            stands 1 2 = 1
            stands 1 3 = 1
            stands 1 9 = 4
            stands 1 10 = 0
            stands 2 1 = 4
            stands 2 2 = 4
            stands 2 3 = 3
            days 1
            wheel 1 1 = 0
            wheel 2 1 = 4
            stands 1 1 = 1
            stands 2 1 = 4
            days 1
            wheel 1 1 = 1
            told 5 = 0
            """);

        says("Whatever is changed (a LINK, a SLIP) sets THE MARK to today: each stands as its PLACE is then.");
        holds(HALVES, """
            days 1
            slip 3 1
            told 5 = 1
            stands 1 0 = 0
            stands 1 1 = 0
            stands 1 2 = 1
            stands 2 1 = 3
            undo 1
            told 5 = 0
            stands 1 1 = 1
            cut 1 true
            told 5 = 1
            wheel 2 1 = 4
            stands 1 1 = 0
            days 1
            cut 1 false
            told 5 = 2
            wheel 2 1 = 4
            stands 2 1 = 3
            """);

        says("A FEAST is on a day when its WHEEL stands at P.");
        holds(FAMILY, """
            told 14 = 4
            days 2
            told 14 = 5
            days 1
            told 14 = 4
            slip 4 -1
            told 14 = 0
            """);
        holds(BOUND, """
            told 14 = 1
            slip 3 1
            told 14 = 3
            """);
    }

    // ---- what is tried

    /** 6 goes by a tooth in a thousand days. */
    private static final String SLOW = """
        text w30 0;w3 0;w30 0;w3 0;w30 0;w3 0;w30 0;la0 1 0;lm1 2 0;la2 3 0;lb3 4 0;la4 5 0;lm5 6 0;f6 10;f6 0;f6 1;
        clock
        """;
    /** All four FEASTS are together on day 100000. */
    private static final String SELDOM = """
        text w29 0;w30 0;w23 0;w7 0;lb0 1 0;lb0 2 0;lb0 3 0;f0 8;f1 10;f2 19;f3 5;
        clock
        """;

    private static void feastsTried() {
        says("======== 3 TRIED from now; nothing changes by it.");
        String all = looks() + tried() + triedByWheels() + triedByDays() + "teeth 0 NONE\nteeth 0 0\nlook 0\nlook 3\njudge\nfault\ntold 3\n";
        changesNothing(HALF_RICH, all);
        changesNothing(RICH, "next 0\ntogether 7\nagain\nfree 1\nrest 30 1\nidlers 0 2 1\nhidden 4 0 3 NONE\nteeth 1 0\nlook 1\njudge");
        changesNothing(BOUND, "next 0\nfree 1\nrest 2 1\nidlers 0 3 1\nhidden 3 0 1 NONE\nslips 3 9");
        changesNothing(FAMILY, "hidden 4 0 3 NONE\nhidden 4 1 -3 0\nhidden 4 2 1 NONE\nadded 2 2 3 NONE");

        says("NEXT of a FEAST: in how many days (0: today; 9999 at most); NONE.");
        holds(SLOW, """
            next 1 = 0
            next 0 = NONE
            next 2 = 1000
            days 1
            next 0 = 9999
            next 2 = 999
            days 998
            next 2 = 1
            days 1
            next 2 = 0
            next 0 = 9000
            """);
        says("NEXT; NONE. UNKNOWN.");
        refuses("UNKNOWN", "next -1\nnext 3\nnext LOW\nnext HIGH");
        holds(FAMILY, """
            next 0 = 2
            next 1 = NONE
            next 2 = 0
            days 2
            next 0 = 0
            days 1
            next 0 = 3
            slip 4 1
            next 2 = NONE
            """);

        says("TOGETHER: likewise of a SET of FEASTS, all on one day (99999 at most).");
        holds(SLOW, """
            together 1 = 10000
            together 0 = 0
            together 2 = 0
            together 3 = NONE
            """);
        holds(SELDOM, """
            together 15 = NONE
            days 1
            together 15 = 99999
            together 0 = 0
            days 9999
            together 15 = 90000
            """);
        says("TOGETHER; NONE. UNKNOWN.");
        refuses("UNKNOWN", "together 8\ntogether 15\ntogether LOW\ntogether -1\ntogether 1073741824");
        holds(FAMILY, """
            together 5 = 2
            together 4 = 0
            together 7 = NONE
            slip 4 1
            together 5 = NONE
            """);
        holds("text w3 1;w5 2;f0 0;f0 1;f1 2;\nclock\n", """
            next 0 = 2
            together 5 = 2
            days 1
            next 1 = 2
            slip 0 1
            next 0 = 0
            days 1
            next 0 = 2
            next 1 = 0
            together 6 = 0
            together 4 = 0
            together 3 = NONE
            """);

        says("AGAIN: behind how many days (1 .. 999999999) all that turn stand just as they do now, without any part over; NONE: more, "
            + "or nothing turns.");
        sound("""
            again = 1: w3 1;d0 3;
            again = 1: w30 1;d0 30;
            again = 30: w30 1;d0 1;
            again = 10: w10 0;w5 0;la0 1 0;
            again = 999861681: w17 0;w4 0;w13 0;w17 0;w19 0;w21 0;w23 0;w29 0;la0 1 0;lm1 2 0;lm1 3 0;lm1 4 0;lm1 5 0;lm1 6 0;lm1 7 0;
            again = NONE: w14 0;w11 0;w9 0;w17 0;w23 0;w25 0;w28 0;w29 0;la0 1 0;lm1 2 0;lm1 3 0;lm1 4 0;lm1 5 0;lm1 6 0;lm1 7 0;
            again = NONE: w30 0;w29 0;w28 0;w27 0;w25 0;w23 0;w19 0;w17 0;lm0 1 0;lm1 2 0;lm1 3 0;lm1 4 0;lm1 5 0;lm1 6 0;lm1 7 0;
            """);
        says("AGAIN; NONE.");
        holds(FAMILY, "again = 8\ncut 1 true\nagain = 8\ncut 0 true\nagain = 4");
        holds(BOUND, "again = NONE");
        holds(NEW, "again = NONE");
    }

    private static void wheelsTried() {
        says("ADDED: a WHEEL that meshes with one that is told: TEETH (3 .. 30) by which it (standing at 0 today) stands at p (0 .. 29) "
            + "in n days (0 .. 9999): how many; the i-th; NONE.");
        holds(SMALL, """
            added 0 0 0 NONE = 28
            added 0 0 0 0 = 3
            added 0 0 0 27 = 30
            added 0 0 0 28 = NONE
            added 0 0 0 -2 = NONE
            added 0 0 0 HIGH = NONE
            added 0 0 0 LOW = NONE
            added 0 1 0 NONE = 0
            added 0 1 0 0 = NONE
            added 0 29 1 NONE = 1
            added 0 29 1 0 = 30
            added 0 29 1 1 = NONE
            added 0 2 1 0 = 3
            added 0 1 1 NONE = 0
            added 0 0 9999 NONE = 3
            added 0 0 9999 0 = 3
            added 0 0 9999 1 = 9
            added 0 0 9999 2 = 11
            added 2 0 9999 NONE = 28
            added 1 29 29 NONE = 1
            added 1 29 29 0 = 30
            """);
        holds(HALVES, """
            added 1 2 1 NONE = 1
            added 1 2 1 0 = 3
            added 2 0 1 NONE = 28
            added 2 1 2 NONE = 28
            days 1
            added 2 0 1 NONE = 28
            """);
        says("ADDED: i = NONE how many, else the i-th; NONE. UNKNOWN, OUTSIDE.");
        refuses("UNKNOWN", "added -1 0 0 NONE\nadded 5 0 0 NONE\nadded 5 0 0 0");
        refuses("OUTSIDE", """
            added 0 -1 0 NONE
            added 0 30 0 NONE
            added 0 0 -1 NONE
            added 0 0 10000 NONE
            added 4 LOW 0 0
            added 4 HIGH 0 0
            added 4 0 LOW 0
            added 4 0 HIGH 0
            """);

        says("ALIKE of two that turn: 1 the same way, 0 not.");
        holds(FAMILY, """
            alike 0 1 = 0
            alike 1 0 = 0
            alike 1 2 = 1
            alike 0 3 = 1
            """);
        says("ALIKE. UNKNOWN, NOT: one RESTS.");
        refuses("NOT", "alike 0 4\nalike 4 0");
        refuses("NOT", HALF_RICH, "alike 3 4\nalike 0 3");
        refuses("NOT", BOUND_RICH, "alike 0 1");

        says("WEAR of a LINK that meshes: how many different teeth of B one tooth of A meets; in how many days two that touch do again "
            + "(cut upwards; NONE: it is CUT, or they do not turn).");
        sound("""
            wear 0 0 = 30: w29 0;w30 0;lm0 1 0;
            wear 0 0 = 29: w29 0;w30 0;lm1 0 0;
            wear 0 0 = 1: w30 0;w30 0;lm1 0 0;
            wear 0 0 = 1: w30 0;w3 0;lm0 1 0;
            wear 0 0 = 10: w3 0;w30 0;lm0 1 0;
            wear 0 1 = 870: w29 0;w30 0;lm0 1 0;
            wear 0 1 = 1: w3 0;w3 0;lm0 1 0;d0 3;
            wear 0 1 = 2: w5 0;w5 0;lm0 1 0;d0 4;
            wear 0 1 = 1: w5 0;w5 0;lm0 1 0;d0 6;
            wear 0 1 = 3: w5 0;w3 0;lm0 1 0;d0 7;
            wear 0 1 = 3: w5 0;w3 0;lm0 1 0;d0 5;
            wear 0 1 = 4: w5 0;w3 0;lm0 1 0;d0 4;
            wear 1 1 = 11: w10 0;w5 0;w11 0;la0 1 0;lm1 2 0;d0 10;
            wear 1 1 = 110: w10 0;w5 0;w11 0;la0 1 0;lm1 2 0;
            """);
        holds(FAMILY, """
            wear 0 1 = 8
            wear 2 1 = 3
            cut 1 true
            wear 0 1 = 8
            wear 2 1 = NONE
            wear 2 0 = 1
            cut 0 true
            wear 0 1 = NONE
            wear 0 0 = 2
            """);
        holds("text w3 0;w4 0;lm0 1 0;lm0 1 0;\nclock\n", """
            wear 0 1 = 12
            cut 0 true
            wear 0 1 = NONE
            wear 1 1 = 12
            """);
        holds(BOUND, """
            wear 0 0 = 3
            wear 0 1 = NONE
            """);
    }

    private static void fewestTried() {
        says("IDLERS: the fewest LINKS that mesh, ON, to each of which an idler is put (it meshes like a belt then), so that nothing BINDS "
            + "and two told ones turn the same way; of like ones the least SET: how many; which; NONE.");
        holds(FAMILY, """
            idlers 0 1 0 = 1
            idlers 0 1 1 = 1
            idlers 1 0 1 = 1
            idlers 0 3 0 = 0
            idlers 0 3 1 = 0
            idlers 2 3 1 = 4
            idlers 1 3 1 = 4
            idlers 0 4 0 = NONE
            idlers 0 4 1 = NONE
            cut 0 true
            idlers 0 1 0 = NONE
            idlers 2 3 1 = NONE
            """);
        holds(BOUND, """
            idlers 0 1 1 = 1
            idlers 1 2 1 = 2
            idlers 0 2 1 = 4
            """);
        holds("text w3 0;w3 0;w3 0;w3 0;lm0 1 0;lm1 2 0;lm2 3 0;\nclock\n", """
            idlers 0 3 0 = 1
            idlers 0 3 1 = 1
            idlers 1 3 0 = 0
            idlers 1 2 1 = 2
            idlers 3 0 1 = 1
            """);
        sound("""
            idlers 0 1 0 = NONE: w3 0;w6 0;la0 1 0;lb0 1 0;
            idlers 0 1 0 = NONE: w3 0;w6 0;la0 1 0;lm0 1 0;
            idlers 0 1 1 = 3: w3 0;w3 0;lm0 1 0;lm0 1 0;
            idlers 0 1 1 = 1023: w3 0;w3 0;lm0 1 0;lm0 1 0;lm0 1 0;lm0 1 0;lm0 1 0;lm0 1 0;lm0 1 0;lm0 1 0;lm0 1 0;lm0 1 0;
            idlers 0 1 0 = 10: w3 0;w3 0;lm0 1 0;lm0 1 0;lm0 1 0;lm0 1 0;lm0 1 0;lm0 1 0;lm0 1 0;lm0 1 0;lm0 1 0;lm0 1 0;
            idlers 1 2 1 = 4: w3 0;w3 0;w3 0;lm0 1 0;lm0 1 0;lm1 2 0;
            """);

        says("FREE: the fewest LINKS more to be CUT so that nothing BINDS; of like ones the least SET.");
        holds(FAMILY, "free 0 = 0\nfree 1 = 0");
        holds(NEW, "free 0 = 0\nfree 1 = 0");
        holds(BOUND, """
            free 0 = 1
            free 1 = 1
            cut 3 true
            free 1 = 1
            cut 0 true
            free 0 = 0
            free 1 = 0
            cut 0 false
            cut 1 true
            free 1 = 0
            """);
        sound("""
            free 1 = 4: w3 0;w3 0;lm0 1 0;lm0 1 0;lb0 1 0;
            free 1 = 3: w3 0;w3 0;lm0 1 0;lm0 1 0;lb0 1 0;lb0 1 0;
            free 0 = 2: w3 0;w3 0;lm0 1 0;lm0 1 0;lb0 1 0;lb0 1 0;
            free 1 = 31: w3 0;w3 0;lm0 1 0;lm0 1 0;lm0 1 0;lm0 1 0;lm0 1 0;lb0 1 0;lb0 1 0;lb0 1 0;lb0 1 0;lb0 1 0;
            free 1 = 960: w3 0;w3 0;lm0 1 0;lm0 1 0;lm0 1 0;lm0 1 0;lm0 1 0;lm0 1 0;lb0 1 0;lb0 1 0;lb0 1 0;lb0 1 0;
            """);

        says("REST: the fewest more so that all of a SET of WHEELS REST (and nothing BINDS); NONE: the driven one is among them.");
        holds(FAMILY, """
            rest 0 0 = 0
            rest 16 0 = 0
            rest 2 0 = 1
            rest 2 1 = 1
            rest 4 1 = 1
            rest 8 1 = 1
            rest 30 1 = 1
            rest 1 0 = NONE
            rest 31 1 = NONE
            cut 1 true
            rest 12 0 = 0
            rest 12 1 = 0
            rest 14 1 = 1
            rest 1 1 = NONE
            """);
        holds(BOUND, """
            rest 0 0 = 1
            rest 0 1 = 1
            rest 2 0 = 2
            rest 2 1 = 3
            rest 8 0 = 2
            rest 8 1 = 5
            rest 14 0 = 2
            rest 14 1 = 5
            rest 1 0 = NONE
            """);
        sound("""
            rest 2 1 = 1023: w3 0;w3 0;lm0 1 0;lm0 1 0;lm0 1 0;lm0 1 0;lm0 1 0;lm0 1 0;lm0 1 0;lm0 1 0;lm0 1 0;lm0 1 0;
            rest 2 0 = NONE: w3 0;w3 0;lm0 1 0;d1 1;
            rest 1 0 = 1: w3 0;w3 0;lm0 1 0;d1 1;
            """);
    }

    private static void slipsAndHidden() {
        says("along LINKS that are ON, fewest from the driven one (of like rows the first, LINK by LINK the lesser): a BILLION at first, "
            + "LINK by LINK, day by day times (1000 less Q) / 1000, cut; 0, if it RESTS.");
        holds(FAMILY, """
            slips 0 0 = 1000000000
            slips 0 99 = 1000000000
            slips 3 0 = 1000000000
            slips 1 1 = 995000000
            slips 2 1 = 995000000
            slips 3 1 = 975100000
            slips 4 0 = 0
            slips 4 99 = 0
            cut 1 true
            slips 1 1 = 995000000
            slips 2 0 = 0
            """);
        holds(BOUND, "slips 0 0 = 0\nslips 3 0 = 0");
        sound("""
            slips 1 99 = 1000000000: w3 0;w3 0;lm0 1 0;
            slips 1 1 = 999000000: w3 0;w3 0;lm0 1 1;
            slips 1 1 = 1000000: w3 0;w3 0;lm0 1 999;
            slips 1 3 = 1: w3 0;w3 0;lm0 1 999;
            slips 1 4 = 0: w3 0;w3 0;lm0 1 999;
            slips 1 99 = 0: w3 0;w3 0;lm0 1 999;
            slips 1 4 = 996005996: w3 0;w3 0;lm0 1 1;
            slips 2 20 = 818253976: w3 0;w3 0;w3 0;lm0 1 7;lm1 2 3;
            slips 1 1 = 900000000: w3 0;w3 0;lb0 1 100;lb0 1 0;
            slips 1 1 = 900000000: w3 0;w3 0;w3 0;lb0 2 0;lb2 1 0;lb0 1 100;
            slips 3 1 = 720000000: w3 0;w3 0;w3 0;w3 0;lb0 2 100;lb0 1 0;lb1 3 0;lb2 3 200;
            slips 3 1 = 720000000: w3 0;w3 0;w3 0;w3 0;lb1 3 0;lb0 2 100;lb0 1 0;lb2 3 200;
            """);
        holds("text w3 0;w3 0;w3 0;w3 0;lb0 2 100;lb0 1 0;lb1 3 0;lb2 3 200;\nclock\n", """
            cut 0 true
            slips 3 1 = 1000000000
            slips 2 1 = 800000000
            cut 0 false
            cut 3 true
            slips 3 1 = 1000000000
            slips 2 1 = 900000000
            """);

        says("HIDDEN: pairs of WHEELS (A below B), one of which turns and one RESTS, by a LINK of KIND k (0 'm', 1 'b', 2 'a') between which a "
            + "told WHEEL that RESTS would have a RATE of just r (-30 .. 30, not 0; nothing BINDS by it): how many; the i-th (100 times A and "
            + "B; rising); NONE.");
        holds("text w6 0;w9 0;w4 0;w10 0;w8 0;lm0 1 0;lm2 0 0;lb3 4 0;d0 30;\nclock\n", """
            hidden 3 0 30 NONE = 4
            hidden 3 0 30 0 = 103
            hidden 3 0 30 1 = 104
            hidden 3 0 30 2 = 203
            hidden 3 0 30 3 = 204
            hidden 3 0 30 4 = NONE
            hidden 3 0 30 -2 = NONE
            hidden 3 0 30 HIGH = NONE
            hidden 3 0 30 LOW = NONE
            hidden 3 0 -30 NONE = 2
            hidden 3 0 -30 0 = 3
            hidden 3 0 -30 1 = 4
            hidden 3 1 30 NONE = 2
            hidden 3 1 -30 NONE = 4
            hidden 3 0 1 NONE = 0
            hidden 3 0 -1 0 = NONE
            hidden 4 2 30 NONE = 0
            """);
        sound("""
            hidden 1 2 15 NONE = 1: w6 0;w3 0;d0 30;
            hidden 1 2 15 0 = 1: w6 0;w3 0;d0 30;
            hidden 1 2 15 NONE = 0: w6 0;w3 0;d0 29;
            hidden 1 2 14 NONE = 0: w6 0;w3 0;d0 29;
            hidden 1 0 -1 NONE = 1: w6 0;w3 0;
            hidden 1 1 1 NONE = 1: w6 0;w3 0;
            hidden 2 0 1 NONE = 1: w6 0;w9 0;w9 0;lm1 2 0;
            hidden 2 0 1 0 = 1: w6 0;w9 0;w9 0;lm1 2 0;
            hidden 2 0 -1 0 = 2: w6 0;w9 0;w9 0;lm1 2 0;
            hidden 2 0 1 NONE = 0: w6 0;w9 0;w9 0;lm1 2 0;lb1 2 0;
            hidden 0 0 -1 0 = 1: w6 0;w9 0;d1 1;
            hidden 2 0 -1 NONE = 2: w3 0;w3 0;w3 0;lb0 1 0;lb0 1 0;lb0 1 0;lb0 1 0;lb0 1 0;lb0 1 0;lb0 1 0;lb0 1 0;lb0 1 0;lb0 1 0;
            hidden 2 0 -1 1 = 102: w3 0;w3 0;w3 0;lb0 1 0;lb0 1 0;lb0 1 0;lb0 1 0;lb0 1 0;lb0 1 0;lb0 1 0;lb0 1 0;lb0 1 0;lb0 1 0;
            hidden 7 1 1 0 = 607: w6 0;w9 0;w3 0;w3 0;w3 0;w3 0;w3 0;w3 0;d6 1;
            """);
        holds(BOUND, "hidden 3 0 1 NONE = 0\nhidden 3 0 1 0 = NONE");
        refuses("OUTSIDE", """
            hidden 4 -1 1 NONE
            hidden 4 3 1 NONE
            hidden 4 LOW 1 NONE
            hidden 4 HIGH 1 NONE
            hidden 4 0 0 NONE
            hidden 4 0 31 NONE
            hidden 4 0 -31 NONE
            hidden 4 0 LOW NONE
            hidden 4 0 HIGH NONE
            """);
        says("HIDDEN: i = NONE how many, else the i-th; NONE. UNKNOWN, OUTSIDE (kind, r), NOT: the WHEEL turns.");
        refuses("NOT", "hidden 0 0 3 NONE\nhidden 1 2 -30 0\nhidden 2 1 30 5");
        holds(HALF_RICH, "hidden 3 0 3 NONE = 1\nhidden 4 0 -3 NONE = 1");
    }

    // ---- what stood, the book

    private static void whatStood() {
        says("STOOD (12 at most): a WHEEL stood at a PLACE (0 .. 29) so many days from today (0 .. 999; from today as it is when that is asked).");
        holds(FAMILY, """
            11* stood 4 0 0 = 11
            stood 0 999 29 = 12
            stood 0 0 0 = FULL
            told 11 = 12
            tear = 12
            stood 0 0 0 = 1
            """);
        says("STOOD: how much. UNKNOWN, OUTSIDE, FULL (12).");
        holds(HALF_RICH, "stood 4 999 29 = 11\nstood 0 0 0 = 12\nstood 1 1 1 = FULL\ntold 11 = 12");
        refuses("FULL", RICH, "stood 4 0 0\nstood 0 999 29");
        refuses("UNKNOWN", "stood 5 0 0\nstood -1 0 0");
        refuses("OUTSIDE", """
            stood 4 -1 0
            stood 4 1000 0
            stood 4 LOW 0
            stood 4 HIGH 0
            stood 4 0 -1
            stood 4 0 30
            stood 4 0 LOW
            stood 4 0 HIGH
            """);
        holds("text w9 8;\nclock\n", """
            stood 0 1 0 = 1
            teeth 0 NONE = 2
            days 8
            teeth 0 NONE = 2
            teeth 0 0 = 4
            """);

        says("TEETH that fit: T of 3 to 30, by which, RATE as it is now, its PLACE today (left over by T) and RATE times the days from today "
            + "(cut downwards), together left over by T, are all that STOOD of it: how many; the i-th; NONE.");
        holds(HALVES, """
            teeth 3 NONE = 28
            teeth 3 0 = 3
            teeth 3 27 = 30
            teeth 3 28 = NONE
            teeth 3 -2 = NONE
            teeth 3 HIGH = NONE
            teeth 3 LOW = NONE
            stood 3 0 29
            teeth 3 NONE = 1
            teeth 3 0 = 30
            teeth 2 NONE = 28
            tear
            stood 3 999 2
            teeth 3 NONE = 3
            teeth 3 0 = 3
            teeth 3 1 = 9
            teeth 3 2 = 27
            stood 3 0 2
            teeth 3 NONE = 3
            stood 3 0 3
            teeth 3 NONE = 0
            teeth 3 0 = NONE
            tear
            stood 2 1 2
            teeth 2 NONE = 1
            teeth 2 0 = 3
            tear
            stood 1 1 0
            teeth 1 NONE = 28
            stood 1 2 1
            teeth 1 NONE = 28
            stood 1 6 0
            teeth 1 NONE = 1
            teeth 1 0 = 3
            cut 0 true
            teeth 1 NONE = 0
            cut 0 false
            teeth 1 NONE = 1
            """);

        says("TEETH that fit: i = NONE how many, else the i-th; NONE. UNKNOWN.");
        refuses("UNKNOWN", "teeth 5 NONE\nteeth -1 NONE\nteeth 5 0");
        holds(FAMILY, "teeth 0 NONE = 28\nteeth 0 0 = 3\nteeth 0 27 = 30\nteeth 0 28 = NONE\nteeth 0 -2 = NONE");
        says("LOOK; NONE. UNKNOWN.");
        refuses("UNKNOWN", "look 5\nlook -1\nlook HIGH");
        holds(FAMILY, "look 0 = 15\nlook 4 = NONE\nstood 0 0 1\nlook 0 = NONE");
        says("LOOK: the day of 1 to 30 on which those that fit stand most unlike: the greatest part that stands alike is least; of like ones "
            + "the least; NONE: none parts them.");
        holds("text w30 0;w3 0;w9 0;w3 0;w10 2;la0 1 0;lb1 2 0;la2 3 0;lb3 4 0;\nclock\n", """
            wheel 4 2 = 1
            wheel 4 3 = 30
            look 4 = 30
            stood 4 30 0
            teeth 4 NONE = 1
            look 4 = NONE
            """);
        holds("text w28 0;w3 0;w13 0;w4 0;w10 2;la0 1 0;lb1 2 0;la2 3 0;lb3 4 0;\nclock\n", """
            wheel 4 2 = 3
            wheel 4 3 = 91
            look 4 = NONE
            """);
        holds("text w3 0;w30 29;w9 2;\nclock\n", """
            look 2 = NONE
            look 1 = 1
            stood 1 0 2
            look 1 = NONE
            stood 1 0 3
            look 1 = NONE
            """);
        holds("text w9 8;d0 3;\nclock\n", """
            stood 0 1 2
            teeth 0 NONE = 2
            teeth 0 0 = 3
            teeth 0 1 = 9
            look 0 = 2
            days 1
            """);
    }

    private static void theBook() {
        says("THE BOOK (15 at most) tells WHEELS, days (0 .. 99999 from today as it is when that is asked), PLACES (0 .. 29): WRONG: the first "
            + "that is otherwise; NONE.");
        holds(FAMILY, """
            judge = NONE
            write 0 0 0 = 1
            write 0 99999 9 = 2
            write 2 1 11 = 3
            11* write 4 99999 1 = 14
            judge = NONE
            write 4 0 29 = 15
            judge = 14
            write 4 0 1 = FULL
            told 12 = 15
            days 1
            judge = 0
            undo 1
            judge = 14
            tear = 15
            judge = NONE
            write 2 1 10 = 1
            judge = 0
            """);
        holds("text w30 29;\nclock\n", """
            write 0 0 29 = 1
            write 0 1 0 = 2
            judge = NONE
            days 30
            judge = NONE
            days 29
            judge = 0
            """);
        says("A line behind THE BOOK: how many. UNKNOWN, OUTSIDE, FULL (15).");
        holds(HALF_RICH, "write 4 99999 29 = 14\nwrite 0 0 0 = 15\nwrite 1 1 1 = FULL\ntold 12 = 15");
        refuses("FULL", RICH, "write 4 0 0\nwrite 0 99999 29");
        refuses("UNKNOWN", "write 5 0 0\nwrite -1 0 0");
        refuses("OUTSIDE", """
            write 4 -1 0
            write 4 100000 0
            write 4 LOW 0
            write 4 HIGH 0
            write 4 0 -1
            write 4 0 30
            write 4 0 LOW
            write 4 0 HIGH
            """);
        says("WRONG; NONE.");
        holds(FAMILY, "judge = NONE\nwrite 4 0 1\njudge = NONE\nwrite 4 0 0\njudge = 1\nslip 4 -1\njudge = 0");
        says("Nothing STOOD, no BOOK: how much both had.");
        holds(RICH, """
            tear = 27
            tear = 0
            told 11 = 0
            told 12 = 0
            judge = NONE
            teeth 4 NONE = 28
            told 13 = 30
            """);
    }

    // ---- draws, undoing, images

    private static void draws() {
        says("THE SEED (0 at first: each DRAW it becomes it times 1103515245 and 12345, left over by 2 to the 31; the DRAW of n is it / 65536, "
            + "left over by n): n days: a DRAW of 8: on 0 a DRAW of WHEELS SLIPS by 1; then the day.");
        holds(SMALL, """
            seed 0 = 0
            drift 1 = 1
            wheel 0 1 = 6
            wheel 1 1 = 0
            wheel 2 1 = 0
            told 5 = 0
            seed HIGH = 1406932606
            drift 1 = 2
            told 5 = 0
            seed 366755708 = 1043980748
            drift 1 = 3
            told 5 = 0
            seed 293486460 = 458757
            drift 1 = 4
            told 5 = 0
            seed 0 = 65541
            drift 1 = 5
            told 5 = 4
            wheel 0 1 = 2
            """);
        holds(FAMILY, """
            seed 9
            drift 1 = 1
            wheel 0 1 = 4
            wheel 4 1 = 1
            seed 52 = 731087919
            drift 1 = 2
            told 5 = 1
            wheel 0 1 = 7
            wheel 4 1 = 2
            seed 0 = 1558410194
            """);
        holds("text w3 0;w3 0;w3 0;w3 0;w3 0;w3 0;w3 0;w3 2;\nclock\n", """
            seed 66
            drift 1
            wheel 7 1 = 0
            wheel 0 1 = 1
            seed 14 = 29877648
            drift 1
            wheel 7 1 = 0
            wheel 0 1 = 0
            """);
        says("n days BY DRAWS (1 .. 99): the day. OUTSIDE, NOT: it BINDS, no WHEELS; FULL: the day is above 900000 (as it is called).");
        holds(FAMILY, "drift 1 = 1\ndrift 99 = 100\ntold 13 = 2");
        refuses("OUTSIDE", "drift 0\ndrift 100\ndrift -1\ndrift LOW\ndrift HIGH");
        refuses("NOT", BOUND_RICH, "drift 1\ndrift 99");
        refuses("NOT", NEW, "drift 1\ndrift 99");
        refuses("FULL", TOO_LATE, "drift 1\ndrift 99");
        refuses("FULL", LATE + "days 1\n", "drift 1");
        holds(LATE, "told 4 = 900000\ndrift 99 = 900099\ndrift 1 = FULL\nundo 1 = 900000\ndrift 1 = 900001\ndrift 1 = FULL");
        says("THE SEED becomes v (0 .. 2147483647): what it was. OUTSIDE.");
        holds(NEW, "seed HIGH = 0\nseed 0 = HIGH\nseed 1 = 0\nseed -1 = OUTSIDE\nseed 2 = 1");
        refuses("OUTSIDE", "seed -1\nseed LOW");
        says("IMAGES, deeds to be undone are gone; THE SEED stays");
        holds(RICH, "clock = -11\ngoBack 0 = 1\nkeep 1 = 1\nclock = 0\ngoBack 0 = NOT\ngoBack 1 = NOT\nundo 1 = NOT\nseed 5 = 7\ntold 11 = 0\ntold 12 = 0");
    }

    private static void undoing() {
        says("UNDONE: the latest days(), cut(), slip(), drift() that were done since the text or IMAGE (30 at most are kept); THE SEED stays.");
        holds(FAMILY, """
            29* days 1 = 29
            told 13 = 29
            days 1 = 30
            told 13 = 30
            days 1 = 31
            told 13 = 30
            undo 30 = 1
            told 13 = 0
            undo 1 = NOT
            """);
        holds(FAMILY, """
            25* days 1
            undo 20 = 5
            told 13 = 5
            28* days 2
            told 13 = 30
            undo 28 = 5
            undo 2 = 3
            undo 1 = NOT
            """);
        holds(FAMILY, """
            days 1
            cut 0 true
            slip 3 4
            drift 20
            told 13 = 4
            undo 1 = 1
            wheel 3 1 = 3
            told 13 = 3
            undo 1 = 1
            wheel 3 1 = 4
            told 9 = 1
            undo 1 = 1
            told 9 = 0
            told 10 = 15
            told 5 = 0
            undo 1 = 0
            """);
        holds(FAMILY, """
            drift 1
            undo 1 = 0
            seed 3 = 1406932606
            days 1
            seed 8 = 3
            undo 1 = 0
            seed 0 = 8
            """);
        holds(FAMILY, """
            days 1
            keep 0 = 1
            undo 1 = NOT
            told 13 = 0
            days 1
            told 13 = 1
            goBack 0 = 1
            told 13 = 0
            undo 1 = NOT
            days 1
            told 13 = 1
            clock = 0
            told 13 = 0
            undo 1 = NOT
            """);
        holds(FAMILY, """
            days 1
            stood 0 0 0
            write 0 0 0
            text w2|
            undo 1 = 0
            told 11 = 1
            told 12 = 1
            told 3 = 2
            """);
        says("The n latest deeds (1 .. 30) are undone: the day. OUTSIDE, NOT: not so many.");
        refuses("OUTSIDE", "undo 0\nundo 31\nundo -1\nundo LOW\nundo HIGH");
        refuses("NOT", HALF_RICH, "undo 30");
        refuses("NOT", BOUND_RICH, "undo 6");
        refuses("NOT", FAMILY, "undo 1\nundo 30");
        refuses("NOT", NEW, "undo 1");
        holds(HALF_RICH, "told 13 = 29\nundo 29 = 7\ntold 13 = 0");
        holds(RICH, "undo 30 = 8\ntold 13 = 0");
        holds(FAMILY, "days 3\ndays 4\nundo 1 = 3\nundo 1 = 0\nundo 1 = NOT");
    }

    private static void images() {
        says("IMAGES 0, 1 keep the day, THE MARK, how all stood then, LINKS, THE SEED.");
        holds(HALVES, """
            days 3
            slip 0 1
            days 1
            cut 1 true
            days 1
            seed 77
            keep 0 = 1
            days 8
            slip 1 3
            slip 3 9
            cut 1 false
            cut 0 true
            seed 78
            stood 0 0 0
            keep 1 = 1
            days 1
            goBack 0 = 1
            told 4 = 5
            told 5 = 4
            told 9 = 2
            told 10 = 3
            told 11 = 1
            wheel 0 1 = 6
            wheel 1 1 = 1
            wheel 2 1 = 2
            wheel 3 1 = 29
            stands 1 1 = 2
            seed 0 = 77
            goBack 1 = 1
            told 4 = 13
            told 5 = 13
            told 9 = 1
            told 10 = 1
            wheel 3 1 = 8
            seed 0 = 78
            goBack 0 = 1
            goBack 0 = 1
            told 4 = 5
            """);
        says("IMAGE i becomes what is so (nothing can be undone then): 1. UNKNOWN.");
        holds(FAMILY, """
            days 1
            keep 1 = 1
            told 13 = 0
            goBack 0 = NOT
            days 1
            keep 1 = 1
            days 1
            goBack 1 = 1
            told 4 = 2
            """);
        refuses("UNKNOWN", "keep 2\nkeep -1\ngoBack 2\ngoBack -1");
        says("What is so becomes IMAGE i (nothing can be undone then): 1. UNKNOWN, NOT: it was not kept.");
        refuses("NOT", HALF_RICH, "goBack 1");
        refuses("NOT", NEW, "goBack 0\ngoBack 1");
        refuses("UNKNOWN", NEW, "goBack 2\ngoBack -1\nkeep 2\nkeep -1");
        holds(NEW, "keep 0 = 1\ngoBack 0 = 1\ngoBack 1 = NOT\ndays 4\ngoBack 0 = 1\ntold 4 = 0");
    }

    // ---- the promises' own bounds

    private static void newAndNewlyTold() {
        says("`CogFamily()`: No WHEELS.");
        holds(NEW, """
            told 0 = 0
            told 1 = 0
            told 2 = 0
            told 3 = 0
            told 4 = 0
            told 5 = 0
            told 6 = NONE
            told 7 = 1
            told 8 = 0
            told 9 = 0
            told 10 = 0
            told 11 = 0
            told 12 = 0
            told 13 = 0
            told 14 = 0
            fault = NONE
            judge = NONE
            tear = 0
            seed 0 = 0
            clock = 0
            """);
        says("becomes THE CLOCK (day 0, all as told; nothing STOOD, no BOOK");
        String other = "text w4 1;w3 2;lb1 0 0;lb1 0 0;lb1 0 0;d1 2;f1 2;\nclock = 2\n";
        holds(HALF_TOLD, other + """
            told 4 = 0
            told 5 = 0
            told 6 = 1
            told 7 = 2
            told 9 = 0
            told 10 = 3
            told 11 = 0
            told 12 = 0
            told 13 = 0
            wheel 0 1 = 1
            link 2 4 = 1
            link 3 4 = UNKNOWN
            feast 1 0 = UNKNOWN
            text w9 0;
            clock = 1
            told 1 = 0
            told 2 = 0
            told 6 = 0
            told 7 = 1
            wheel 0 2 = 1
            wheel 1 0 = UNKNOWN
            text w9 0;w5 0;
            clock = 2
            told 1 = 0
            told 2 = 0
            told 6 = 0
            told 7 = 1
            wheel 1 2 = 0
            text w9 0;d0 5;
            clock = 1
            told 7 = 5
            text w9 0;d0 4;x
            clock = -11
            told 7 = 5
            text w9 0;d0 3;
            clock = 1
            told 7 = 3
            """);
        says("(it is empty then, with a FAULT, too)");
        holds(NEW, """
            text w3 0;w4 0;lm0 1 0;
            clock = 2
            text w3 0;w4 0;l|
            clock = -11
            fault = 11
            text w3 0;w4 0;lm|
            clock = -11
            fault = 12
            text w3 0;w4|
            clock = -11
            fault = 7
            text w3 0|
            clock = -11
            fault = 4
            text ;
            clock = -11
            fault = 0
            told 0 = 2
            """);
    }

    private static void looksRefused() {
        says("A letter (0 .. 255) comes behind THE TEXT: how many it has. OUTSIDE, FULL (250).");
        holds(NEW, "feed 0 = 1\nfeed 255 = 2\nfeed 256 = OUTSIDE\nfeed -1 = OUTSIDE\ntold 3 = 2\nclock = -11\nfault = 0");
        refuses("OUTSIDE", "feed -1\nfeed 256\nfeed LOW\nfeed HIGH");
        refuses("FULL", "text w3 1;f0 2;|\n239* feed 32\nfeed 119\n", "feed 0\nfeed 119\nfeed 255");
        refuses("OUTSIDE", "text w3 1;f0 2;|\n239* feed 32\nfeed 119\n", "feed -1\nfeed 256");

        says("THE TEXT (it is empty then, with a FAULT, too) becomes THE CLOCK (day 0, all as told; nothing STOOD, no BOOK");
        holds(RICH, """
            told 3 = 7
            text  0;
            clock = 2
            told 3 = 0
            told 4 = 0
            told 5 = 0
            told 9 = 0
            told 11 = 0
            told 12 = 0
            told 13 = 0
            wheel 0 1 = 4
            wheel 1 0 = 6
            link 0 0 = UNKNOWN
            feast 0 0 = UNKNOWN
            """);
        says("how many WHEELS; -10 less the number of its FAULT (all else is as it was)");
        for (String text : List.of("x", "w2 0;", "w3 0;w3 0;lm0 1 0;d0 5;f0 3;", "w3 0;w3 0;w3 0;w3 0;w3 0;w3 0;w3 0;w3 0;w3 0;")) {
            String told = "text " + text + "\n";
            due("a FAULT in '" + text + "'", new Asked(HALF_TOLD + told).ask("clock") < -10 ? 1 : 0, 1);
            asItWas(HALF_TOLD, told + "clock", LATER_BUT_TEXT);
        }
        holds(RICH, "clock = -11");
        asItWas(RICH, "clock", LATER_BUT_TEXT);
        says("The place (from 0 on) of the letter that has the FAULT of the latest clock(); NONE.");
        holds(NEW, """
            fault = NONE
            text x
            fault = NONE
            clock = -11
            fault = 0
            text w2|
            fault = 0
            clock = -12
            fault = 1
            clock = 0
            fault = NONE
            """);

        says("0 WHEELS, 1 LINKS, 2 FEASTS, 3 letters of THE TEXT, 4 the day, 5 THE MARK, 6 the driven WHEEL (NONE without), 7 R, "
            + "8 whether it BINDS (1, 0), 9 LINKS that are CUT (a SET), 10 WHEELS that turn (a SET), 11 what STOOD, 12 lines of THE BOOK, "
            + "13 deeds that can be undone, 14 FEASTS of today (a SET). OUTSIDE.");
        refuses("OUTSIDE", "told -1\ntold 15\ntold LOW\ntold HIGH");
        holds(FAMILY, "told 0 = 5\ntold 14 = 4\ntold 15 = OUTSIDE");
        holds(HALF_RICH, """
            told 0 = 5
            told 1 = 3
            told 2 = 3
            told 3 = 7
            told 4 = 8
            told 5 = 7
            told 6 = 0
            told 7 = 3
            told 8 = 0
            told 9 = 4
            told 10 = 7
            told 11 = 10
            told 12 = 13
            told 13 = 29
            told 14 = 0
            slip 4 1
            told 14 = 4
            """);
        holds(RICH, "told 9 = 0\ntold 10 = 15\ntold 11 = 12\ntold 12 = 15\ntold 13 = 30");
        holds(BOUND_RICH, "told 6 = 0\ntold 8 = 1\ntold 9 = 8\ntold 10 = 0\ntold 13 = 5");
        says("Of a WHEEL: what = 0 TEETH, 1 PLACE today, 2 RATE above (below 0: the other way), 3 RATE below. UNKNOWN, OUTSIDE.");
        refuses("OUTSIDE", "wheel 0 -1\nwheel 4 4\nwheel 0 LOW\nwheel 0 HIGH");
        holds(FAMILY, "wheel 0 0 = 12\nwheel 2 3 = 2\nwheel 4 0 = 9\nwheel 4 3 = 1");
        says("Of a LINK: what = 0 KIND (0 'm', 1 'b', 2 'a'), 1 A, 2 B, 3 Q, 4 whether it is ON (1, 0). UNKNOWN, OUTSIDE.");
        refuses("OUTSIDE", "link 0 -1\nlink 2 5\nlink 0 LOW\nlink 0 HIGH");
        holds(FAMILY, "link 0 0 = 0\nlink 2 4 = 1\nlink 2 3 = 20\nlink 1 0 = 2");
        says("Of a FEAST: what = 0 WHEEL, 1 P. UNKNOWN, OUTSIDE.");
        refuses("OUTSIDE", "feast 0 -1\nfeast 2 2\nfeast 0 LOW\nfeast 0 HIGH");
        holds(FAMILY, "feast 0 0 = 0\nfeast 2 1 = 1");
        says("PLACE of a WHEEL in n days (0 .. 99999). UNKNOWN, OUTSIDE.");
        holds(FAMILY, "stands 0 0 = 0\nstands 0 99999 = 9\nstands 2 99999 = 6");
        holds(LATE + "days 1\n", "stands 0 99999 = 0\nstands 2 99999 = 19");
        refuses("OUTSIDE", "stands 0 -1\nstands 0 100000\nstands 4 LOW\nstands 4 HIGH");
    }

    private static void deedsRefused() {
        says("n days (1 .. 9999): the day. OUTSIDE, NOT: it BINDS; FULL: the day is above 900000 (as it is called).");
        holds(FAMILY, "days 1 = 1\ndays 9999 = 10000\ntold 13 = 2\ntold 5 = 0");
        holds(NEW, "days 1 = 1\ndays 9999 = 10000");
        holds(LATE, "told 4 = 900000\ndays 9999 = 909999\ndays 1 = FULL\nundo 1 = 900000\ndays 1 = 900001\ndays 1 = FULL");
        refuses("OUTSIDE", "days 0\ndays 10000\ndays -1\ndays LOW\ndays HIGH");
        refuses("NOT", BOUND_RICH, "days 1\ndays 9999");
        refuses("FULL", TOO_LATE, "days 1\ndays 9999");
        refuses("FULL", LATE + "days 1\n", "days 1");

        says("A LINK is CUT (is), or put ON: 1 it was ON, 0 not; nothing is done (no deed), if it is so already. UNKNOWN.");
        holds(HALF_RICH, """
            cut 2 true = 0
            cut 1 false = 1
            told 13 = 29
            cut 1 true = 1
            told 13 = 30
            told 9 = 6
            cut 2 false = 0
            told 9 = 2
            """);
        changesNothing(HALF_RICH, "cut 2 true\ncut 0 false\ncut 1 false");
        changesNothing(RICH, "cut 0 false\ncut 2 false");
        changesNothing(BOUND, "cut 0 false\ncut 3 false");
        holds("text w3 0;w4 0;la0 1 0;la0 1 0;la0 1 0;la0 1 0;la0 1 0;la0 1 0;la0 1 0;la0 1 0;la0 1 0;la0 1 7;\nclock\n", """
            cut 9 true = 1
            told 9 = 512
            cut 10 true = UNKNOWN
            link 9 4 = 0
            """);

        says("A WHEEL SLIPS by n teeth (-99 .. 99): its PLACE. UNKNOWN, OUTSIDE.");
        holds(FAMILY, """
            slip 0 99 = 3
            slip 0 -99 = 0
            slip 0 -1 = 11
            slip 0 1 = 0
            slip 4 8 = 0
            slip 4 -1 = 8
            slip 4 0 = 8
            told 13 = 7
            """);
        holds("text w30 29;w3 2;\nclock\n", "slip 0 1 = 0\nslip 0 -1 = 29\nslip 1 99 = 2\nslip 1 -99 = 2\nslip 1 1 = 0");
        holds(BOUND, "slip 1 8 = 1\ntold 8 = 1");
        refuses("OUTSIDE", "slip 0 -100\nslip 0 100\nslip 4 LOW\nslip 4 HIGH");
    }

    private static void triesRefused() {
        says("IDLERS: what = 0 how many, 1 which; NONE. UNKNOWN, OUTSIDE.");
        refuses("OUTSIDE", "idlers 0 1 -1\nidlers 0 1 2\nidlers 0 4 LOW\nidlers 0 4 HIGH");
        says("FREE: what = 0 how many, 1 which. OUTSIDE.");
        refuses("OUTSIDE", "free -1\nfree 2\nfree LOW\nfree HIGH");
        refuses("OUTSIDE", NEW, "free -1\nfree 2");
        says("REST: what = 0 how many, 1 which; NONE. UNKNOWN, OUTSIDE.");
        refuses("OUTSIDE", "rest 0 -1\nrest 31 2\nrest 1 LOW\nrest 2 HIGH");
        refuses("OUTSIDE", NEW, "rest 0 -1\nrest 0 2");
        says("WEAR: what = 0 teeth, 1 days; NONE. UNKNOWN, OUTSIDE, NOT: it does not mesh.");
        refuses("OUTSIDE", "wear 0 -1\nwear 2 2\nwear 1 LOW\nwear 0 HIGH");
        refuses("NOT", "wear 1 0\nwear 1 1");
        refuses("NOT", BOUND_RICH, "wear 3 0\nwear 3 1");
        says("odds that no LINK by which a WHEEL is driven SLIPS in n days (0 .. 99)");
        holds(FAMILY, "slips 1 0 = 1000000000\nslips 1 2 = 990025000\nslips 4 0 = 0\nslips 1 100 = OUTSIDE");
        says("SLIPS. UNKNOWN, OUTSIDE.");
        refuses("UNKNOWN", "slips -1 0\nslips 5 0");
        refuses("OUTSIDE", "slips 0 -1\nslips 0 100\nslips 4 LOW\nslips 4 HIGH");
        holds(FAMILY, "slips 1 99 = 608814470");
    }

    public static void main(String[] args) throws IOException {
        document = Files.readString(Path.of("..", "shared", "DOC.md"), StandardCharsets.UTF_8);
        terms();
        orderOfRefusals();
        refusedInARow();
        unknownOnes();
        wheelsAndLinks();
        drivenAndFeasts();
        lettersOfTexts();
        faults();
        rates();
        places();
        feastsTried();
        wheelsTried();
        fewestTried();
        slipsAndHidden();
        whatStood();
        theBook();
        draws();
        undoing();
        images();
        newAndNewlyTold();
        looksRefused();
        deedsRefused();
        triesRefused();
        for (String line : wrong) {
            System.out.println(line);
        }
        System.out.println("EdgeTests: " + sentences + " sentences, " + checks + " answers looked at, " + wrong.size() + " wrong");
        if (!wrong.isEmpty()) {
            System.exit(1);
        }
    }
}
