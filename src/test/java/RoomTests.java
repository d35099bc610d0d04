import java.lang.management.ManagementFactory;

/** How much room the class takes: what a new object makes, and that no call makes anything. */
public final class RoomTests {
    /** Objects, arrays, fields and elements of one object are some 110 and 1,100: far below a run's room. */
    private static final long MOST_BYTES_OF_ONE = 10_000, MOST_BYTES_OF_CALLS = 1_000;
    private static final int MOST_CALLS = 512;
    /** Eight WHEELS, ten LINKS, six FEASTS; nothing BINDS, 7 RESTS. */
    private static final String TEXT = "w12 0;w8 3;w20 19;w5 2;w9 1;w7 0;w30 4;w11 0;lm0 1 5;la1 2 1;lm2 3 20;lb3 4 9;lm4 5 7;"
        + "la5 6 3;lb3 4 9;lm4 5 7;la6 5 3;lb4 3 2;d0 7;f0 6;f2 0;f4 1;f5 6;f6 29;f3 4;";

    private static final com.sun.management.ThreadMXBean THREADS =
        (com.sun.management.ThreadMXBean) ManagementFactory.getThreadMXBean();
    private static int answers = 0;

    private static long madeSoFar() {
        return THREADS.getThreadAllocatedBytes(Thread.currentThread().getId());
    }

    /** Every call of the class, 59 calls in all. */
    private static void eachCall(CogFamily x) {
        answers += x.feed('w') + x.clock() + x.fault() + x.told(14) + x.wheel(1, 1) + x.link(1, 1) + x.feast(1, 1) + x.stands(6, 99999);
        answers += x.days(9999) + x.cut(0, true) + x.cut(0, false) + x.slip(1, -99) + x.drift(99) + x.undo(2);
        answers += x.next(4) + x.together(63) + x.together(3) + x.again() + x.added(2, 4, 9999, 1) + x.alike(0, 6);
        answers += x.idlers(0, 7, 0) + x.idlers(0, 6, 1) + x.free(1) + x.rest(127, 0) + x.rest(64, 1) + x.wear(2, 1);
        answers += x.slips(6, 99) + x.hidden(7, 0, -7, 0) + x.hidden(7, 1, 7, -1);
        answers += x.stood(6, 999, 3) + x.stood(1, 1, 1) + x.teeth(6, -1) + x.teeth(7, 0) + x.look(6) + x.look(5);
        answers += x.write(0, 99999, 3) + x.write(6, 5, 3) + x.judge() + x.tear();
        answers += x.seed(5) + x.keep(0) + x.keep(1) + x.goBack(0) + x.drift(50) + x.days(1) + x.slip(7, 5) + x.cut(9, true);
        answers += x.undo(1) + x.free(0) + x.told(8) + x.wheel(9, 9) + x.link(99, 0) + x.feast(-1, 0) + x.stands(0, -1);
        answers += x.hidden(0, 0, 1, 0) + x.idlers(3, 3, 0) + x.undo(30) + x.goBack(2) + x.feed(256);
    }

    public static void main(String[] args) {
        int wrong = 0;
        // what the machine itself makes when code runs for the first time is made here
        eachCall(new CogFamily());
        madeSoFar();
        long before = madeSoFar();
        CogFamily x = new CogFamily();
        long ofOne = madeSoFar() - before;
        if (ofOne > MOST_BYTES_OF_ONE) {
            wrong++;
            System.out.println("a new object makes " + ofOne + " bytes");
        }
        before = madeSoFar();
        for (int i = 0; i < TEXT.length(); i++) {
            answers += x.feed(TEXT.charAt(i));
        }
        if (x.clock() != 8 || x.told(8) != 0) {
            wrong++;
            System.out.println("the text is not as this test wants it");
        }
        for (int calls = TEXT.length() + 2; calls + 59 <= MOST_CALLS; calls += 59) {
            eachCall(x);
        }
        long ofCalls = madeSoFar() - before;
        if (ofCalls > MOST_BYTES_OF_CALLS) {
            wrong++;
            System.out.println("calls make " + ofCalls + " bytes");
        }
        System.out.println("RoomTests: an object makes " + ofOne + " bytes, its calls " + ofCalls + ", " + wrong + " wrong");
        if (wrong > 0 || answers == 0) {
            System.exit(1);
        }
    }
}
