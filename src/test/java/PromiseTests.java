import java.util.ArrayList;
import java.util.List;

/** Each promise by hand: ordinary inputs, the edges that the document names, wrong inputs. */
public final class PromiseTests {
    private static final int NONE = CogFamily.NONE, UNKNOWN = CogFamily.UNKNOWN, OUTSIDE = CogFamily.OUTSIDE;
    private static final int NOT = CogFamily.NOT, FULL = CogFamily.FULL;
    private static final int LOW = Integer.MIN_VALUE, HIGH = Integer.MAX_VALUE;
    private static final List<String> wrong = new ArrayList<>();
    private static int checks = 0;

    /** 0 turns 1 (mesh), 2 on the axle of 1, 3 meshes with 2; 4 by itself. */
    private static final String FAMILY =
        "w 12 0; w 8 3; w 20 19; w 5 2; w 9 1; l m 0 1 5; l a 1 2 0; l m 2 3 20; d 0 3; f 0 6; f 2 0; f 4 1;";
    /** Three that mesh in a round: it binds. */
    private static final String BOUND = "w 6 1;w 9 2;w 4 3;w 10 4;l m 0 1 0;l m 1 2 0;l m 2 0 0;l b 2 3 7;f 0 1;f 3 5;";

    private static void due(String what, long got, long want) {
        checks++;
        if (got != want) {
            wrong.add(what + ": answered " + got + ", due is " + want);
        }
    }

    private static void feed(CogFamily x, String text) {
        for (int i = 0; i < text.length(); i++) {
            x.feed(text.charAt(i));
        }
    }

    private static CogFamily of(String text) {
        CogFamily x = new CogFamily();
        feed(x, text);
        x.clock();
        return x;
    }

    private static void fault(String text, int number, int place) {
        CogFamily x = of("w 7 3; w 5 1;");
        feed(x, text);
        due("clock of '" + text + "'", x.clock(), -10 - number);
        due("fault of '" + text + "'", x.fault(), place);
        due("letters behind '" + text + "'", x.told(3), 0);
        due("all as it was behind '" + text + "'", x.told(0), 2);
        due("TEETH as they were behind '" + text + "'", x.wheel(0, 0), 7);
    }

    private static void promise1to4() {
        CogFamily x = new CogFamily();
        int[] asNew = {0, 0, 0, 0, 0, 0, NONE, 1, 0, 0, 0, 0, 0, 0, 0};
        for (int what = 0; what < asNew.length; what++) {
            due("1 new told " + what, x.told(what), asNew[what]);
        }
        due("1 new wheel", x.wheel(0, 0), UNKNOWN);
        due("1 new link", x.link(0, 0), UNKNOWN);
        due("1 new feast", x.feast(0, 0), UNKNOWN);
        due("1 new fault", x.fault(), NONE);
        due("1 new free", x.free(0), 0);
        due("1 new rest", x.rest(0, 1), 0);
        due("1 new together", x.together(0), 0);
        due("1 new again", x.again(), NONE);
        due("1 new days", x.days(5), 5);
        due("1 new drift", x.drift(5), NOT);
        due("1 new seed", x.seed(0), 0);
        due("2 low", x.feed(-1), OUTSIDE);
        due("2 high", x.feed(256), OUTSIDE);
        due("2 least", x.feed(0), 1);
        due("2 most", x.feed(255), 2);
        for (int i = 3; i <= 250; i++) {
            due("2 letter " + i, x.feed(' '), i);
        }
        due("2 full", x.feed(' '), FULL);
        due("2 outside ahead of full", x.feed(256), OUTSIDE);
        due("2 letters", x.told(3), 250);
        due("3 faulty", x.clock(), -11);
        due("4 place", x.fault(), 0);
        due("3 empty", x.clock(), 0);
        due("4 none again", x.fault(), NONE);
        feed(x, "   ");
        due("3 blanks", x.clock(), 0);
        feed(x, FAMILY);
        due("3 wheels", x.clock(), 5);
        due("3 day", x.told(4), 0);
    }

    private static void promise3whatStays() {
        CogFamily x = of(FAMILY);
        x.seed(77);
        x.keep(0);
        x.days(3);
        x.stood(1, 1, 1);
        x.write(1, 1, 1);
        x.cut(0, true);
        feed(x, "w 2");
        due("3 fault", x.clock(), -12);
        due("3 fault day stays", x.told(4), 3);
        due("3 fault deeds stay", x.told(13), 2);
        due("3 fault stood stays", x.told(11), 1);
        due("3 fault book stays", x.told(12), 1);
        due("3 fault cut stays", x.told(9), 1);
        due("3 fault image stays", x.goBack(0), 1);
        x.days(2);
        feed(x, "w 7 9;");
        due("3 new clock", x.clock(), 1);
        due("3 start left over", x.wheel(0, 1), 2);
        due("3 day 0", x.told(4), 0);
        due("3 mark 0", x.told(5), 0);
        due("3 nothing stood", x.told(11), 0);
        due("3 no book", x.told(12), 0);
        due("3 deeds gone", x.told(13), 0);
        due("3 images gone", x.goBack(0), NOT);
        due("3 links gone", x.told(1), 0);
        due("3 feasts gone", x.told(2), 0);
        due("3 driven again 0", x.told(6), 0);
        due("3 R again 1", x.told(7), 1);
        due("3 seed stays", x.seed(0), 77);
    }

    private static void faults() {
        fault("x", 1, 0);
        fault("  W", 1, 2);
        fault("w", 1, 1);
        fault("w  ", 1, 3);
        fault("w;", 1, 1);
        fault("w3", 1, 2);
        fault("w3;", 1, 2);
        fault("w3x", 1, 2);
        fault("w3 0", 1, 4);
        fault("w3 0 0;", 1, 5);
        fault("w 3 0;;", 1, 6);
        fault("w2 0;", 2, 1);
        fault("w31 0;", 2, 1);
        fault("w0003 0;", 2, 1);
        fault("w99999999999999 0;", 2, 1);
        fault("w300;", 2, 1);
        fault("w3 30;", 2, 3);
        fault("w3 0030;", 2, 3);
        fault("d0 1;", 2, 1);
        fault("f0 1;", 2, 1);
        fault("w3 0;l", 1, 6);
        fault("w3 0;w3 0;l x 0 1 0;", 1, 12);
        fault("w3 0;w3 0;l 0 1 0;", 1, 12);
        fault("w3 0;w3 0;lm0 1;", 1, 15);
        fault("w3 0;w3 0;lm0 2 0;", 2, 14);
        fault("w3 0;w3 0;lm2 0 0;", 2, 12);
        fault("w3 0;w3 0;lm0 0 0;", 4, 14);
        fault("w3 0;w3 0;lm0 0000 0;", 2, 14);
        fault("w3 0;w3 0;lm0 0 1000;", 4, 14);
        fault("w3 0;w3 0;lm0 1 1000;", 2, 16);
        fault("w3 0;d0 0;", 2, 8);
        fault("w3 0;d0 31;", 2, 8);
        fault("w3 0;d0 1;d0 1;", 3, 10);
        fault("w3 0;d1 1;", 2, 6);
        fault("w3 0;f0 3;", 4, 8);
        fault("w3 0;f0 29;", 4, 8);
        fault("w3 0;f0 30;", 2, 8);
        fault("w3 0;f1 0;", 2, 6);
        fault("w3 0;f0 3", 4, 8);
        fault("w3 0;f0 2", 1, 9);
        fault("w3 0;w3 0;w3 0;w3 0;w3 0;w3 0;w3 0;w3 0;w", 3, 40);
        fault("w3 0;f0 0;f0 0;f0 0;f0 0;f0 0;f0 0; f", 3, 36);
        StringBuilder links = new StringBuilder("w3 0;w3 0;");
        for (int i = 0; i < 10; i++) {
            links.append("la0 1 0;");
        }
        due("ten links", of(links.toString()).told(1), 10);
        fault(links + "l", 3, 90);
        due("blanks anywhere", of(" w 3  0 ; w 4 1;  l  m  0  1  007 ; d 1 030;f 001 3 ; ").told(7), 30);
        due("no blank where none is due", of("w3 0;w4 1;lb0 1 999;d0 1;f0 2;").told(2), 1);
    }

    private static void promise5to9() {
        CogFamily x = of(FAMILY);
        int[] told = {5, 3, 3, 0, 0, 0, 0, 3, 0, 0, 15, 0, 0, 0, 4};
        for (int what = 0; what < told.length; what++) {
            due("5 told " + what, x.told(what), told[what]);
        }
        due("5 low", x.told(-1), OUTSIDE);
        due("5 high", x.told(15), OUTSIDE);
        // 1: -3; 2 on its axle: -3 * 20 / 8; 3: the other way
        int[][] wheels = {{12, 0, 3, 1}, {8, 3, -3, 1}, {20, 19, -15, 2}, {5, 2, 15, 2}, {9, 1, 0, 1}};
        for (int w = 0; w < 5; w++) {
            for (int what = 0; what < 4; what++) {
                due("6 wheel " + w + " " + what, x.wheel(w, what), wheels[w][what]);
            }
        }
        due("6 unknown first", x.wheel(5, 9), UNKNOWN);
        due("6 unknown low", x.wheel(-1, 0), UNKNOWN);
        due("6 outside", x.wheel(0, 4), OUTSIDE);
        due("6 outside low", x.wheel(0, LOW), OUTSIDE);
        int[][] links = {{0, 0, 1, 5, 1}, {2, 1, 2, 0, 1}, {0, 2, 3, 20, 1}};
        for (int l = 0; l < 3; l++) {
            for (int what = 0; what < 5; what++) {
                due("7 link " + l + " " + what, x.link(l, what), links[l][what]);
            }
        }
        x.cut(1, true);
        due("7 cut", x.link(1, 4), 0);
        x.cut(1, false);
        due("7 unknown", x.link(3, 0), UNKNOWN);
        due("7 unknown low", x.link(-1, 5), UNKNOWN);
        due("7 outside", x.link(0, 5), OUTSIDE);
        due("8 wheel", x.feast(1, 0), 2);
        due("8 place", x.feast(0, 1), 6);
        due("8 unknown", x.feast(3, 2), UNKNOWN);
        due("8 outside", x.feast(0, 2), OUTSIDE);
        due("9 today", x.stands(2, 0), 19);
        // -7.5 is cut downwards to -8
        due("9 in a day", x.stands(2, 1), 11);
        due("9 in two", x.stands(2, 2), 4);
        due("9 up", x.stands(3, 1), 4);
        due("9 far", x.stands(0, 99999), 9);
        due("9 outside", x.stands(0, 100000), OUTSIDE);
        due("9 outside low", x.stands(0, -1), OUTSIDE);
        due("9 unknown first", x.stands(5, -1), UNKNOWN);
        due("9 rests", x.stands(4, 99999), 1);
        due("5 binds", of(BOUND).told(8), 1);
        due("5 binds, nothing turns", of(BOUND).told(10), 0);
        due("6 binds, RATE", of(BOUND).wheel(0, 2), 0);
        due("5 belt turns alike", of("w3 0;w4 0;lb1 0 0;").wheel(1, 2), 1);
        due("5 axles that agree", of("w3 0;w6 0;la0 1 0;la1 0 0;").told(8), 0);
        due("5 axle and belt bind", of("w3 0;w6 0;la0 1 0;lb1 0 0;").told(8), 1);
        due("5 axle and belt of like ones", of("w6 0;w6 0;la0 1 0;lb1 0 0;").told(8), 0);
        due("5 what rests cannot bind", of("w6 0;w6 0;w6 0;lm1 2 0;lb1 2 0;").told(8), 0);
    }

    private static void moreOf3to9() {
        CogFamily x = of("w 3 0; w 3 0; l m 0 1 0; l m 0 1 0;");
        feed(x, "w 3 0");
        due("3 no letter of the text before", x.clock(), -11);
        due("4 the end", x.fault(), 5);
        feed(x, "w 3 0; w 3 0; l");
        due("3 no KIND of the text before", x.clock(), -11);
        due("4 the end", x.fault(), 15);
        due("3 empty", x.clock(), 0);
        due("5 nothing turns", x.told(10), 0);
        due("5 nobody is driven", x.told(6), NONE);
        due("6 nobody", x.wheel(0, 0), UNKNOWN);
        x = of("w 3 0; f 0 0; f 0 1;");
        due("5 today", x.told(14), 1);
        x.days(1);
        due("5 today", x.told(14), 2);
        x.days(1);
        due("5 none today", x.told(14), 0);
        due("8 unknown low", x.feast(-1, 0), UNKNOWN);
    }

    private static void moreOf10to14() {
        CogFamily x = of(FAMILY);
        for (int i = 0; i < 90; i++) {
            x.days(9999);
        }
        x.days(90);
        due("10 not full at 900000", x.days(9999), 909999);
        due("14 all thirty", x.undo(30), 62 * 9999);
        due("12 most", x.slip(0, 99), (int) (62L * 9999 * 3 + 99) % 12);
        due("12 least", x.slip(0, -99), (int) (62L * 9999 * 3) % 12);
        x = of(FAMILY);
        x.cut(0, true);
        due("11 rests", x.told(10), 1);
        x.undo(1);
        due("14 turns again", x.told(10), 15);
        x.cut(0, true);
        x.keep(1);
        x.cut(0, false);
        x.goBack(1);
        due("34 rests again", x.told(10), 1);
    }

    private static void moreOf15to28() {
        CogFamily x = of("w 3 0; w 5 0; f 0 2; f 1 0;");
        due("15 the last of a round", x.next(0), 2);
        x.days(1);
        x.slip(0, 1);
        due("15 today, from THE MARK", x.next(0), 0);
        x.days(1);
        due("15 from THE MARK", x.next(0), 2);
        x.slip(1, 1);
        due("16 one at rest, never", x.together(3), NONE);
        due("17 in a day", of("w 3 1; d 0 3;").again(), 1);
        due("17 none but one", of("w 3 1; w 4 1; d 0 30;").again(), 1);
        due("18 today", of("w 3 1;").added(0, 0, 0, NONE), 28);
        due("18 the last place", of("w 3 1;").added(0, 29, 1, NONE), 1);
        due("18 the last place", of("w 3 1;").added(0, 29, 1, 0), 30);
        // 9999 and 1 is a number of 4s
        due("18 the last day", of("w 3 1;").added(0, 1, 9999, 0), 4);

        due("15 at 0 behind a whole turn", of("w 3 1; f 0 0;").next(0), 2);
        due("20 an axle takes no idler", of("w 3 0; w 6 0; la 0 1 0; lb 0 1 0;").idlers(0, 1, 0), NONE);
        x = of("w 3 0;w 4 0;w 5 0;w 6 0;w 7 0;w 8 0;w 9 0;w 10 0;lb 0 1 10;lb 1 2 10;f 0 1;f 1 1;f 2 1;f 3 0;f 4 0;f 2 3;");
        due("25 of eight", x.hidden(7, 1, 1, NONE), 3);
        due("25 of eight", x.hidden(7, 1, 1, 2), 207);
        due("24 what was tried is no LINK", x.slips(2, 1), 980100000);
        due("12 of eight", x.slip(7, 1), 1);
        due("16 of six", x.together(63), NONE);
        due("16 of six", x.together(31), 1);
        due("17 of eight", x.again(), 60);
        due("16 unknown seventh", x.together(64), UNKNOWN);

        // one LINK cut where it is worn later than two others together
        x = of("w 3 0;w 3 0;w 3 0;lb 0 1 0;lb 0 1 0;lb 1 2 0;");
        due("22 one later, not two ahead", x.rest(4, 0), 1);
        due("22 one later, not two ahead", x.rest(4, 1), 4);
        x = of("w 3 0;w 3 0;w 3 0;lb 0 1 0;lb 0 1 0;lm 1 2 0;lm 0 1 0;");
        due("21 one later, not two ahead", x.free(1), 8);
        due("20 beside a belt", of("w 3 0;w 3 0;w 3 0;lm 0 1 0;lm 0 1 0;lm 1 0 0;lb 0 1 0;lm 1 2 0;").idlers(1, 2, 1), 23);
        due("20 all three", of("w 3 0;w 3 0;w 3 0;lm 0 1 0;lm 0 1 0;la 1 2 0;lm 1 0 0;").idlers(0, 2, 1), 11);
        due("20 three in a round", of("w 3 0;w 3 0;w 3 0;lm 0 1 0;lm 1 0 0;lm 1 2 0;lm 0 1 0;lm 2 0 0;").idlers(1, 2, 1), 4);
        due("20 one later, not two", of("w 3 0;w 3 0;w 3 0;w 3 0;lm 0 1 0;lm 0 1 0;lm 1 2 0;lm 2 3 0;").idlers(0, 3, 1), 4);

        due("23 a tooth over", of("w 12 0;w 8 0;lm 0 1 0;d 0 23;").wear(0, 1), 2);
        due("23 none over", of("w 12 0;w 8 0;lm 0 1 0;d 0 24;").wear(0, 1), 1);
        due("24 told from the far end", of("w 3 0;w 3 0;lm 1 0 100;").slips(1, 1), 900000000);
        due("24 told from the near end", of("w 3 0;w 3 0;lm 0 1 100;").slips(1, 1), 900000000);
        due("25 rate 30", of("w 3 0;w 3 0;d 0 30;").hidden(1, 1, 30, 0), 1);
        due("25 rate -30", of("w 3 0;w 3 0;d 0 30;").hidden(1, 0, -30, 0), 1);
        StringBuilder ten = new StringBuilder("w 3 0;w 3 0;w 3 0;");
        for (int i = 0; i < 10; i++) {
            ten.append("lb 0 1 0;");
        }
        due("25 beside ten LINKS", of(ten.toString()).hidden(2, 0, 1, NONE), 0);
        due("25 beside ten LINKS", of(ten.toString()).hidden(2, 0, -1, NONE), 2);
        due("25 beside ten LINKS", of(ten.toString()).hidden(2, 0, -1, 1), 102);

        // 1 of 10 teeth a day backwards: at 2, then at 1, then at 0, by any TEETH
        x = of("w 30 0; w 4 3; w 3 0; la 0 2 0; lm 2 1 0;");
        due("28 unlike today alone", x.look(1), NONE);
        // from 2 to 3 on the thirtieth day, where 3 TEETH are at 0
        x = of("w 30 0; w 3 0; w 9 0; w 3 0; w 10 2; la 0 1 0; lb 1 2 0; la 2 3 0; lb 3 4 0;");
        due("28 1 of 30 a day", x.wheel(4, 3), 30);
        due("28 the last day", x.look(4), 30);
        // the same a day later: 3 of 91 teeth a day
        x = of("w 28 0; w 3 0; w 13 0; w 4 0; w 10 2; la 0 1 0; lb 1 2 0; la 2 3 0; lb 3 4 0;");
        due("28 3 of 91 a day", x.wheel(4, 3), 91);
        due("28 a day too late", x.look(4), NONE);
        // 9 for either, then 10, 11: 12 parts 3 from 9
        x = of("w 9 8;");
        x.stood(0, 1, 0);
        due("27 divisors of 9", x.teeth(0, NONE), 2);
        due("28 parts two", x.look(0), 4);
        due("29 the last place", of("w 30 0;").write(0, 0, 29), 1);
    }

    private static void promise10to14() {
        CogFamily x = of(FAMILY);
        due("10 low", x.days(0), OUTSIDE);
        due("10 high", x.days(10000), OUTSIDE);
        due("10 day", x.days(1), 1);
        due("10 most", x.days(9999), 10000);
        due("10 mark stays", x.told(5), 0);
        due("10 binds", of(BOUND).days(1), NOT);
        due("10 outside ahead of not", of(BOUND).days(0), OUTSIDE);
        for (int i = 0; i < 89; i++) {
            x.days(9999);
        }
        due("10 at", x.days(90), 900001);
        due("10 full", x.days(1), FULL);
        due("13 full", x.drift(1), FULL);
        due("10 undo", x.undo(1), 10000 + 89 * 9999);
        due("10 again", x.days(89), 900000);
        due("13 not full at 900000", x.drift(99), 900099);
        due("14 thirty are kept", x.told(13), 30);

        x = of(FAMILY);
        x.days(1);
        due("11 cut", x.cut(1, true), 1);
        due("11 stands as then", x.wheel(2, 1), 11);
        due("11 rests", x.wheel(2, 2), 0);
        due("11 mark", x.told(5), 1);
        due("11 set", x.told(9), 2);
        x.days(1);
        due("11 cut already", x.cut(1, true), 0);
        due("11 nothing done", x.told(13), 3);
        due("11 mark as it was", x.told(5), 1);
        due("11 on already", x.cut(0, false), 1);
        due("11 nothing done", x.told(13), 3);
        due("11 put on", x.cut(1, false), 0);
        due("11 mark", x.told(5), 2);
        x.days(1);
        // 11 less 7.5: the half tooth of day 1 is lost
        due("11 from the mark", x.wheel(2, 1), 3);
        due("11 unknown", x.cut(3, true), UNKNOWN);
        due("11 unknown low", x.cut(-1, false), UNKNOWN);
        due("14 undo", x.undo(2), 2);
        due("14 cut again", x.told(9), 2);
        due("14 mark", x.told(5), 1);
        due("14 not so many", x.undo(4), NOT);
        due("14 low", x.undo(0), OUTSIDE);
        due("14 high", x.undo(31), OUTSIDE);
        due("14 all", x.undo(3), 0);
        due("14 rates", x.wheel(2, 2), -15);
        due("14 none", x.undo(1), NOT);

        due("12 slip", x.slip(0, 13), 1);
        due("12 slip back", x.slip(0, -99), 10);
        due("12 mark", x.told(5), 0);
        x.days(1);
        due("12 slip by none is a deed", x.slip(0, 0), 1);
        due("12 mark", x.told(5), 1);
        due("12 deeds", x.told(13), 4);
        due("12 all stand as then", x.stands(2, 1), 3);
        due("12 low", x.slip(0, -100), OUTSIDE);
        due("12 high", x.slip(0, 100), OUTSIDE);
        due("12 unknown first", x.slip(5, 100), UNKNOWN);
        due("12 binds", of(BOUND).slip(1, 8), 1);
    }

    private static void promise13drift() {
        CogFamily x = of("w 30 0; w 29 0;");
        due("13 low", x.drift(0), OUTSIDE);
        due("13 high", x.drift(100), OUTSIDE);
        due("13 binds", of(BOUND).drift(1), NOT);
        due("13 day", x.drift(99), 99);
        long seed = 0;
        int[] slipped = new int[2];
        int mark = 0;
        for (int day = 0; day < 99; day++) {
            seed = (seed * 1103515245L + 12345) % 2147483648L;
            if (seed / 65536 % 8 == 0) {
                seed = (seed * 1103515245L + 12345) % 2147483648L;
                slipped[(int) (seed / 65536 % 2)]++;
                mark = day;
            }
        }
        due("13 driven", x.wheel(0, 1), (99 + slipped[0]) % 30);
        due("13 resting", x.wheel(1, 1), slipped[1] % 29);
        due("13 mark", x.told(5), mark);
        due("13 one deed", x.told(13), 1);
        due("14 undone", x.undo(1), 0);
        due("14 as it stood", x.wheel(1, 1), 0);
        due("14 seed stays", x.seed(0), seed);
    }

    private static void promise15to18() {
        CogFamily x = of(FAMILY);
        due("15 in two days", x.next(0), 2);
        // 19 - 7.5 n: 19, 11, 4, 16, 9, 1, 14, 6, 19
        due("15 never", x.next(1), NONE);
        due("15 today, at rest", x.next(2), 0);
        due("15 unknown", x.next(3), UNKNOWN);
        due("15 unknown low", x.next(LOW), UNKNOWN);
        due("16 one", x.together(1), 2);
        due("16 with one at rest", x.together(5), 2);
        due("16 never", x.together(3), NONE);
        due("16 none of them", x.together(0), 0);
        due("16 unknown bit", x.together(8), UNKNOWN);
        due("16 unknown sign", x.together(-1), UNKNOWN);
        x.slip(4, 1);
        due("15 never, at rest", x.next(2), NONE);
        due("16 never, one at rest", x.together(5), NONE);
        due("15 binds, today", of(BOUND).next(0), 0);
        due("15 binds, never", of(BOUND).next(1), NONE);
        x = of("w 29 0; w 30 0; w 23 0; lb 0 1 0; lb 0 2 0; f 0 28; f 1 28; f 2 22; f 0 0; f 1 1;");
        due("16 of two", x.together(3), 28);
        // 29 times 29 is 1 more than 28 times 30
        due("16 of other two", x.together(24), 841);
        // 870 k and 28 is 22 more than a number of 23s first for k = 13
        due("16 far", x.together(7), 11338);
        // 1 of 100 teeth a day
        due("15 seldom", of("w 30 0; w 3 0; w 30 0; w 3 0; w 30 0; la 0 1 0; lm 1 2 0; la 2 3 0; lm 3 4 0; f 4 29;").next(0), 2900);
        // 1 of 1000 teeth a day
        x = of("w 30 0;w 3 0;w 30 0;w 3 0;w 30 0;w 3 0;w 30 0;la0 1 0;lm1 2 0;la2 3 0;lb3 4 0;la4 5 0;lm5 6 0;f 6 10;");
        due("15 ten thousand is too far", x.next(0), NONE);
        due("16 ten thousand is not", x.together(1), 10000);
        x.days(1);
        due("15 the last day", x.next(0), 9999);
        // 100000 less what fits into it
        x = of("w 29 0; w 30 0; w 23 0; w 7 0; lb 0 1 0; lb 0 2 0; lb 0 3 0; f 0 8; f 1 10; f 2 19; f 3 5;");
        due("16 a hundred thousand is too far", x.together(15), NONE);
        x.days(1);
        due("16 the last day", x.together(15), 99999);

        due("17 one", of("w 30 7; d 0 4;").again(), 15);
        due("17 parts", of("w 12 0; w 8 3; w 20 19; lm 0 1 0; la 1 2 0; d 0 3;").again(), 8);
        due("17 of several", of("w 6 0;w 9 0;w 4 0;w 10 0;lm0 1 0;lm2 0 0;lb2 3 0;").again(), 180);
        due("17 nothing turns", of(BOUND).again(), NONE);
        due("17 too long", of("w29 0;w28 0;w27 0;w25 0;w23 0;w19 0;w17 0;w13 0;lm0 1 0;lm1 2 0;lm2 3 0;lm3 4 0;lm4 5 0;lm5 6 0;lm6 7 0;").again(), NONE);
        due("17 long", of("w29 0;w28 0;w27 0;w25 0;w23 0;w19 0;lm0 1 0;lm1 2 0;lm2 3 0;lm3 4 0;lm4 5 0;").again(), 29 * 28 * 27 * 25 * 23 * 19);

        x = of(FAMILY);
        // one that meshes with 2 goes by 7.5: in three days 22
        due("18 how many", x.added(2, 2, 3, NONE), 4);
        due("18 first", x.added(2, 2, 3, 0), 4);
        due("18 second", x.added(2, 2, 3, 1), 5);
        due("18 third", x.added(2, 2, 3, 2), 10);
        due("18 fourth", x.added(2, 2, 3, 3), 20);
        due("18 no fifth", x.added(2, 2, 3, 4), NONE);
        due("18 below", x.added(2, 2, 3, -2), NONE);
        due("18 more than its teeth", x.added(2, 22, 3, NONE), 8);
        // one that meshes with 3 goes by -7.5: cut downwards to -8
        due("18 downwards", x.added(3, 0, 1, NONE), 2);
        due("18 downwards", x.added(3, 0, 1, 1), 8);
        due("18 at rest", x.added(4, 0, 9999, NONE), 28);
        due("18 at rest, elsewhere", x.added(4, 1, 9999, NONE), 0);
        due("18 unknown first", x.added(5, -1, 0, 0), UNKNOWN);
        due("18 place low", x.added(0, -1, 0, 0), OUTSIDE);
        due("18 place high", x.added(0, 30, 0, 0), OUTSIDE);
        due("18 days low", x.added(0, 0, -1, 0), OUTSIDE);
        due("18 days high", x.added(0, 0, 10000, 0), OUTSIDE);
    }

    private static void promise19to22() {
        CogFamily x = of(FAMILY);
        due("19 other way", x.alike(0, 1), 0);
        due("19 same way", x.alike(1, 2), 1);
        due("19 same way", x.alike(0, 3), 1);
        due("19 rests", x.alike(0, 4), NOT);
        due("19 rests", x.alike(4, 0), NOT);
        due("19 twice", x.alike(1, 1), UNKNOWN);
        due("19 unknown", x.alike(0, 5), UNKNOWN);
        due("19 unknown", x.alike(-1, 0), UNKNOWN);
        due("19 binds", of(BOUND).alike(0, 1), NOT);

        due("20 alike already", x.idlers(0, 3, 0), 0);
        due("20 alike already", x.idlers(0, 3, 1), 0);
        due("20 one", x.idlers(0, 2, 0), 1);
        due("20 which", x.idlers(0, 2, 1), 1);
        due("20 in between", x.idlers(2, 3, 1), 4);
        due("20 the least", x.idlers(0, 3, 1), 0);
        due("20 rests", x.idlers(0, 4, 0), NONE);
        due("20 rests", x.idlers(0, 4, 1), NONE);
        due("20 twice", x.idlers(2, 2, 0), UNKNOWN);
        due("20 unknown first", x.idlers(0, 5, 9), UNKNOWN);
        due("20 outside", x.idlers(0, 1, 2), OUTSIDE);
        due("20 outside low", x.idlers(0, 1, -1), OUTSIDE);
        due("20 unbinds", of(BOUND).idlers(0, 1, 1), 1);
        due("20 unbinds, of two the least", of(BOUND).idlers(1, 2, 1), 2);
        due("20 unbinds", of(BOUND).idlers(0, 3, 1), 4);
        x.cut(0, true);
        due("20 cut ones are none", x.idlers(0, 1, 0), NONE);
        due("20 a mesh beside a belt", of("w3 0;w3 0;w4 0;lm0 1 0;lb0 1 0;lm0 2 0;").idlers(0, 2, 1), 5);

        due("21 none", of(FAMILY).free(0), 0);
        due("21 none", of(FAMILY).free(1), 0);
        due("21 one", of(BOUND).free(0), 1);
        due("21 the least", of(BOUND).free(1), 1);
        due("21 outside", x.free(2), OUTSIDE);
        due("21 outside low", x.free(-1), OUTSIDE);
        x = of(BOUND);
        x.cut(3, true);
        due("21 more", x.free(1), 1);
        x.cut(0, true);
        due("21 none more", x.free(0), 0);
        // the driven one in a three that mesh and in an odd five: one cut serves both
        x = of("w3 0;w3 0;w3 0;w3 0;lm0 1 0;lm1 2 0;lm2 0 0;lm1 3 0;lm3 2 0;");
        due("21 one for both", x.free(1), 2);

        x = of(FAMILY);
        due("22 one", x.rest(8, 0), 1);
        due("22 the least", x.rest(8, 1), 1);
        due("22 all", x.rest(30, 1), 1);
        due("22 none", x.rest(16, 0), 0);
        due("22 nobody", x.rest(0, 1), 0);
        due("22 driven", x.rest(1, 0), NONE);
        due("22 driven among", x.rest(9, 1), NONE);
        due("22 outside ahead", x.rest(1, 2), OUTSIDE);
        due("22 unknown bit", x.rest(32, 5), UNKNOWN);
        due("22 unknown sign", x.rest(LOW, 0), UNKNOWN);
        due("22 outside", x.rest(0, -1), OUTSIDE);
        x.cut(0, true);
        due("22 at rest already", x.rest(8, 0), 0);
        due("22 two", of(BOUND).rest(2, 0), 2);
        due("22 which", of(BOUND).rest(2, 1), 3);
        due("22 two", of(BOUND).rest(8, 1), 5);
        due("22 like free", of(BOUND).rest(0, 1), 1);
        due("22 driven by 2", of("w3 0;w3 0;lm0 1 0;d1 1;").rest(2, 0), NONE);
        due("22 driven by 2", of("w3 0;w3 0;lm0 1 0;d1 1;").rest(1, 0), 1);
    }

    private static void promise23to25() {
        CogFamily x = of(FAMILY);
        due("23 teeth of B", x.wear(0, 0), 2);
        // 24 teeth pass, 3 a day
        due("23 days", x.wear(0, 1), 8);
        due("23 teeth of B", x.wear(2, 0), 1);
        // 20 teeth pass, 7.5 a day: 2.67
        due("23 days cut upwards", x.wear(2, 1), 3);
        due("23 does not mesh", x.wear(1, 0), NOT);
        due("23 outside ahead of not", x.wear(1, 2), OUTSIDE);
        due("23 outside low", x.wear(0, -1), OUTSIDE);
        due("23 unknown first", x.wear(3, 2), UNKNOWN);
        x.cut(0, true);
        due("23 cut", x.wear(0, 1), NONE);
        due("23 teeth of a cut one", x.wear(0, 0), 2);
        due("23 at rest", x.wear(2, 1), NONE);
        due("23 belt", of(BOUND).wear(3, 0), NOT);
        due("23 binds", of(BOUND).wear(0, 1), NONE);
        due("23 of A, not of B", of("w 4 0;w 30 0;lm 0 1 0;").wear(0, 0), 15);
        due("23 of A, not of B", of("w 4 0;w 30 0;lm 1 0 0;").wear(0, 0), 2);

        x = of(FAMILY);
        due("24 driven", x.slips(0, 99), 1000000000);
        due("24 one link", x.slips(1, 1), 995000000);
        due("24 two days", x.slips(1, 2), 990025000);
        due("24 no days", x.slips(3, 0), 1000000000);
        due("24 a row", x.slips(3, 1), 975100000);
        due("24 rests", x.slips(4, 1), 0);
        due("24 unknown first", x.slips(5, 100), UNKNOWN);
        due("24 outside", x.slips(0, 100), OUTSIDE);
        due("24 outside low", x.slips(0, -1), OUTSIDE);
        due("24 binds", of(BOUND).slips(0, 0), 0);
        x = of("w3 0;w3 0;w3 0;w3 0;lb1 3 100;lb0 2 10;lb0 1 200;lb2 3 20;lb3 0 500;lb0 3 1;");
        due("24 fewest", x.slips(3, 1), 500000000);
        x.cut(4, true);
        due("24 the other", x.slips(3, 1), 999000000);
        x.cut(5, true);
        due("24 the lesser row", x.slips(3, 1), 970200000);
        x.cut(3, true);
        due("24 the row that is left", x.slips(3, 1), 720000000);
        due("24 the row that is left", x.slips(2, 3), 970299000);
        // cut at each step: ..80 day by day, ..81 by the other LINK first, ..98 cut at the end alone
        due("24 LINK by LINK", of("w3 0;w3 0;w3 0;lm0 1 7;lm1 2 3;").slips(2, 20), 818253976);
        x = of("w3 0;w3 0;w3 0;lm0 1 1;lm1 2 999;");
        due("24 none is left", x.slips(2, 99), 0);

        x = of("w 6 0;w 9 0;w 4 0;w 10 0;lm0 1 0;lm2 0 0;");
        due("25 how many", x.hidden(3, 0, 1, NONE), 2);
        due("25 first", x.hidden(3, 0, 1, 0), 103);
        due("25 second", x.hidden(3, 0, 1, 1), 203);
        due("25 no third", x.hidden(3, 0, 1, 2), NONE);
        due("25 below", x.hidden(3, 0, 1, -2), NONE);
        due("25 belt", x.hidden(3, 1, -1, NONE), 2);
        due("25 axle", x.hidden(3, 2, -1, NONE), 0);
        due("25 turns", x.hidden(0, 0, 1, NONE), NOT);
        due("25 unknown first", x.hidden(4, 3, 0, 0), UNKNOWN);
        due("25 outside ahead of not", x.hidden(0, 3, 1, 0), OUTSIDE);
        due("25 kind low", x.hidden(3, -1, 1, 0), OUTSIDE);
        due("25 no rate", x.hidden(3, 0, 0, 0), OUTSIDE);
        due("25 rate high", x.hidden(3, 0, 31, 0), OUTSIDE);
        due("25 rate low", x.hidden(3, 0, -31, 0), OUTSIDE);
        due("25 axle of parts", of("w 6 0;w 9 0;w 4 0;d 0 2;").hidden(1, 2, 3, 0), 1);
        due("25 not by parts", of("w 6 0;w 9 0;w 4 0;d 0 1;").hidden(1, 2, 1, NONE), 0);
        // 1 by 2, and 1 itself: both have 0 on the one side
        x = of("w 6 0;w 9 0;w 9 0;w 6 0;lb1 2 0;lm2 3 0;");
        due("25 by another", x.hidden(1, 1, 1, NONE), 2);
        due("25 by another", x.hidden(1, 1, 1, 1), 2);
        due("25 by a third", x.hidden(1, 0, 1, 0), 3);
        x.cut(0, true);
        due("25 not by what is cut", x.hidden(1, 1, 1, NONE), 1);
        due("25 binds by it", of("w6 0;w9 0;w9 0;lb1 2 0;lm1 2 0;").hidden(1, 0, -1, NONE), 0);
        due("25 binds already", of(BOUND).hidden(3, 0, 1, NONE), 0);
    }

    private static void promise26to31() {
        CogFamily x = of("w 8 3; w 9 1; w 20 19; w 12 0; w 5 0; lm 0 3 0; la 0 2 0; d 3 3;");
        due("27 all", x.teeth(0, NONE), 28);
        due("27 first", x.teeth(0, 0), 3);
        due("27 last", x.teeth(0, 27), 30);
        due("27 none", x.teeth(0, 28), NONE);
        due("27 none below", x.teeth(0, -2), NONE);
        // in a day all are at 0, in two each is 3 teeth ahead of it
        due("28 unlike", x.look(0), 2);
        due("26 first", x.stood(0, 2, 5), 1);
        // 3 - 6 is -3: 5 of 8 alone
        due("27 one", x.teeth(0, NONE), 1);
        due("27 it", x.teeth(0, 0), 8);
        due("28 none parts them", x.look(0), NONE);
        due("26 against", x.stood(0, 2, 4), 2);
        due("27 nothing fits", x.teeth(0, NONE), 0);
        due("27 nothing fits", x.teeth(0, 0), NONE);
        due("28 nothing fits", x.look(0), NONE);
        due("27 another", x.teeth(1, NONE), 28);
        due("28 at rest at 1", x.look(1), NONE);
        x.slip(1, 4);
        // at 5: of 3 TEETH 2, of 4 1, of 5 0
        due("28 at rest at 5", x.look(1), 1);
        due("26 today", x.stood(1, 0, 2), 3);
        due("27 at rest", x.teeth(1, 0), 3);
        due("27 at rest", x.teeth(1, NONE), 1);
        due("26 unknown first", x.stood(5, -1, 0), UNKNOWN);
        due("26 days low", x.stood(0, -1, 0), OUTSIDE);
        due("26 days high", x.stood(0, 1000, 0), OUTSIDE);
        due("26 place low", x.stood(0, 0, -1), OUTSIDE);
        due("26 place high", x.stood(0, 0, 30), OUTSIDE);
        due("27 unknown", x.teeth(5, 0), UNKNOWN);
        due("28 unknown", x.look(-1), UNKNOWN);
        for (int i = 4; i <= 12; i++) {
            due("26 " + i, x.stood(4, 999, 29), i);
        }
        due("26 full", x.stood(4, 0, 0), FULL);
        due("26 outside ahead of full", x.stood(4, 0, 30), OUTSIDE);

        due("30 no book", x.judge(), NONE);
        due("29 first", x.write(0, 1, 0), 1);
        due("29 second", x.write(2, 1, 11), 2);
        due("30 all true", x.judge(), NONE);
        due("29 third", x.write(3, 99999, 10), 3);
        due("29 fourth", x.write(3, 1, 2), 4);
        due("30 the first wrong one", x.judge(), 2);
        x.days(1);
        due("30 from today", x.judge(), 0);
        x.undo(1);
        due("30 from today", x.judge(), 2);
        due("29 unknown first", x.write(5, -1, 0), UNKNOWN);
        due("29 days low", x.write(0, -1, 0), OUTSIDE);
        due("29 days high", x.write(0, 100000, 0), OUTSIDE);
        due("29 place low", x.write(0, 0, -1), OUTSIDE);
        due("29 place high", x.write(0, 0, 30), OUTSIDE);
        for (int i = 5; i <= 15; i++) {
            due("29 " + i, x.write(4, 0, 0), i);
        }
        due("29 full", x.write(4, 0, 0), FULL);
        due("29 outside ahead of full", x.write(4, 0, 30), OUTSIDE);
        due("31 both", x.tear(), 27);
        due("31 none", x.tear(), 0);
        due("31 no book", x.judge(), NONE);
        due("31 nothing stood", x.told(11), 0);
        due("31 nothing stood", x.teeth(4, NONE), 28);

        // parts: 19 less 7.5 a day, but from PLACE today: the half tooth of day 1 does not count
        x.days(1);
        due("27 place", x.wheel(2, 1), 11);
        x.stood(2, 1, 3);
        due("27 from place today", x.teeth(2, NONE), 27);
        due("27 three are too few", x.teeth(2, 0), 4);
        // in two days 4 by THE MARK's parts, too: -15 from 11 is -4
        x.stood(2, 2, 16);
        due("27 as told", x.teeth(2, 0), 20);
        due("27 as told", x.teeth(2, NONE), 1);
    }

    private static void promise32to34() {
        CogFamily x = of(FAMILY);
        due("32 low", x.seed(-1), OUTSIDE);
        due("32 most", x.seed(HIGH), 0);
        due("32 was", x.seed(5), HIGH);
        due("34 not kept", x.goBack(0), NOT);
        due("34 unknown", x.goBack(2), UNKNOWN);
        due("34 unknown low", x.goBack(-1), UNKNOWN);
        due("33 unknown", x.keep(2), UNKNOWN);
        due("33 unknown low", x.keep(-1), UNKNOWN);
        x.days(1);
        x.cut(1, true);
        x.days(4);
        due("33 kept", x.keep(1), 1);
        due("33 nothing can be undone", x.undo(1), NOT);
        due("33 day stays", x.told(4), 5);
        x.seed(6);
        x.slip(0, 5);
        x.cut(1, false);
        x.cut(0, true);
        x.days(9);
        x.stood(0, 0, 0);
        x.write(0, 0, 0);
        due("34 the other was not kept", x.goBack(0), NOT);
        due("34 back", x.goBack(1), 1);
        due("34 nothing can be undone", x.told(13), 0);
        due("34 day", x.told(4), 5);
        due("34 mark", x.told(5), 1);
        due("34 cut", x.told(9), 2);
        due("34 rates", x.told(10), 3);
        due("34 places", x.wheel(0, 1), 3);
        due("34 what stood stays", x.told(11), 1);
        due("34 the book stays", x.told(12), 1);
        due("34 seed", x.seed(9), 5);
        due("33 over it", x.keep(1), 1);
        due("34 again", x.goBack(1), 1);
        due("34 seed", x.seed(0), 9);
    }

    public static void main(String[] args) {
        promise1to4();
        promise3whatStays();
        faults();
        promise5to9();
        moreOf3to9();
        promise10to14();
        moreOf10to14();
        moreOf15to28();
        promise13drift();
        promise15to18();
        promise19to22();
        promise23to25();
        promise26to31();
        promise32to34();
        for (String line : wrong) {
            System.out.println(line);
        }
        System.out.println("PromiseTests: " + checks + " answers looked at, " + wrong.size() + " wrong");
        if (!wrong.isEmpty()) {
            System.exit(1);
        }
    }
}
