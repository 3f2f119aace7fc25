/** Promises 2 to 5: the tape, the faults of texts byte by byte, and plans made of them. */
public final class TextTest {
    private static final int NONE = BuriedPairs.NONE;

    public static void main(String[] args) {
        bytesComeHighestFirst();
        theTapeHoldsThreeHundred();
        theTapeIsCut();
        textsWithoutFault();
        letters();
        numbersOutOfBounds();
        blanksAndEnds();
        digits();
        cablesAndJoints();
        plansAreMadeOfTexts();
        aFaultLeavesNothing();
        fullTapes();
        Check.finish("TextTest");
    }

    private static void fault(String text, int want) {
        BuriedPairs town = new BuriedPairs();
        Check.feed(town, text);
        Check.due("fault of '" + text + "'", town.fault(), want);
        Check.due("bytes behind fault of '" + text + "'", town.count(1), text.length());
        Check.due("plan of '" + text + "'", town.plan(), want == NONE ? 0 : NONE);
        Check.due("bytes behind plan of '" + text + "'", town.count(1), want == NONE ? 0 : text.length());
    }

    private static void bytesComeHighestFirst() {
        BuriedPairs town = new BuriedPairs();
        Check.due("no bytes", town.feed(0, 0, 0, 0, 0), 0);
        Check.due("a byte in each place", town.feed('b' << 24, ' ' << 16, '0' << 8, '2', 0), 4);
        Check.due("fault of b 02", town.fault(), NONE);
        Check.due("a byte above 127", town.feed(0, 0, 0, 0, 0xff000000), 5);
        Check.due("its fault", town.fault(), 4);
        Check.due("twenty", town.feed(-1, -1, -1, -1, -1), 25);
    }

    private static void theTapeHoldsThreeHundred() {
        BuriedPairs town = new BuriedPairs();
        int blanks = 0x20202020;
        for (int i = 1; i < 15; i++) {
            Check.due("feed", town.feed(blanks, blanks, blanks, blanks, blanks), 20 * i);
        }
        Check.due("feed to 299", town.feed(blanks, blanks, blanks, blanks, 0x202020), 299);
        Check.due("feed of two too many", town.feed(0x2020, 0, 0, 0, 0), NONE);
        Check.due("nothing came", town.count(1), 299);
        Check.due("feed to 300", town.feed(0, 0, 0x20, 0, 0), 300);
        Check.due("feed of one too many", town.feed(0, 0, 0, 0, 0x20), NONE);
        Check.due("feed of none", town.feed(0, 0, 0, 0, 0), 300);
        Check.due("fault of blanks", town.fault(), 300);
        Check.due("plan of blanks", town.plan(), NONE);
        Check.due("they stay", town.count(1), 300);
        Check.due("end(301)", town.end(301), false);
        Check.due("end(300)", town.end(300), true);
        Check.due("end(299)", town.end(299), true);
    }

    private static void theTapeIsCut() {
        BuriedPairs town = new BuriedPairs();
        Check.due("end(1) of nothing", town.end(1), false);
        Check.due("end(0) of nothing", town.end(0), true);
        Check.feed(town, "b 2;c 0 1 1 1");
        Check.due("end(-1)", town.end(-1), false);
        Check.due("end(14)", town.end(14), false);
        Check.due("end(MIN)", town.end(Integer.MIN_VALUE), false);
        Check.due("end(MAX)", town.end(Integer.MAX_VALUE), false);
        Check.due("still all", town.count(1), 13);
        Check.due("end(3)", town.end(3), true);
        Check.due("three", town.count(1), 3);
        Check.due("end(4) is gone", town.end(4), false);
        Check.due("b 2 is a plan", town.plan(), 0);
        Check.due("without cables", town.count(3), 0);
    }

    private static void textsWithoutFault() {
        fault("b 2", NONE);
        fault("b 8", NONE);
        fault("b 02", NONE);
        fault("  b   2  ", NONE);
        fault("b 2;c 0 1 1 1", NONE);
        fault("b 2;c 0 1 6 99", NONE);
        fault("b 2 ; c 00 01 06 01 ", NONE);
        fault("b 3;c 1 2 1 1;c 0 1 1 1;j 1 0 0 0;h 0 0 9;h 0 0 0", NONE);
        fault("b 2;c 0 1 6 5;h 0 5 9", NONE);
        fault("b 8;c 0 7 1 1;c 0 6 1 1;c 0 5 1 1;c 0 4 1 1;c 0 3 1 1;c 0 2 1 1;c 0 1 1 1", NONE);
        fault("b 8;c 6 7 1 1", NONE);
    }

    private static void letters() {
        fault("", 0);
        fault("x", 0);
        fault("c 0 1 1 1", 0);
        fault("  j", 2);
        fault("B 2", 0);
        fault("b 2;x", 4);
        fault("b 2;b 2", 4);
        fault("b 2;  b 2", 6);
        fault("b 2;c 0 1 1 1;b 2", 14);
        fault("b 2;;", 4);
        fault("b 2; ;c 0 1 1 1", 5);
        fault("b 2c 0 1 1 1", 3);
        fault("b 2 c 0 1 1 1", 4);
        fault("b 2;C 0 1 1 1", 4);
        fault("b 2;1", 4);
    }

    private static void numbersOutOfBounds() {
        fault("b 0", 2);
        fault("b 1", 2);
        fault("b 9", 2);
        fault("b 10", 3);
        fault("b 95", 3);
        fault("b 00", 3);
        fault("b 01", 3);
        fault("b 09", 3);
        fault("b 2;c 2 1 1 1", 6);
        fault("b 2;c 0 2 1 1", 8);
        fault("b 2;c 0 1 0 1", 10);
        fault("b 2;c 0 1 7 1", 10);
        fault("b 2;c 0 1 10 1", 11);
        fault("b 2;c 0 1 1 0", 12);
        fault("b 2;c 0 1 1 00", 13);
        fault("b 2;h 0", 6);
        fault("b 2;h 10", 7);
        fault("b 2;j 0", 6);
        fault("b 2;c 0 1 2 1;h 1", 16);
        fault("b 2;c 0 1 2 1;h 0 2", 18);
        fault("b 2;c 0 1 2 1;h 0 1 10", 21);
        fault("b 3;c 0 1 2 1;c 1 2 1 1;j 2", 26);
        fault("b 3;c 0 1 2 1;c 1 2 1 1;j 0 2", 28);
        fault("b 3;c 0 1 2 1;c 1 2 1 1;j 0 1 2", 30);
        fault("b 3;c 0 1 2 1;c 1 2 1 1;j 0 1 1 1", 32);
    }

    private static void blanksAndEnds() {
        fault("b", 1);
        fault("b ", 2);
        fault("b2", 1);
        fault("b;", 1);
        fault("b ;", 2);
        fault("b x", 2);
        fault("b 2;", 4);
        fault("b 2; ", 5);
        fault("b 2;c", 5);
        fault("b 2;c ", 6);
        fault("b 2;c0 1 1 1", 5);
        fault("b 2;c 0", 7);
        fault("b 2;c 0;", 7);
        fault("b 2;c 0 ;", 8);
        fault("b 2;c 0 1 1", 11);
        fault("b 2;c 0 1 1  ", 13);
        fault("b 2;c 0 1 1 1 1", 14);
        fault("b 2;c 0 1 1 1;h 0 0", 19);
        fault("b 2;c 0 1 1 1;h 0 0 1 2", 22);
        fault("b\t2", 1);
        fault("b 2\n", 3);
        fault("b 2;c 0 1 1 -1", 12);
        fault("b 2" + (char) 160, 3);
    }

    private static void digits() {
        fault("b 002", 3);
        fault("b 023", 4);
        fault("b 123", 3);
        fault("b 2;c 0 1 1 999", 14);
        fault("b 2;c 0 1 1 001", 13);
        fault("b 2;c 0 1 1 011", 14);
        fault("b 2;c 000 1 1 1", 8);
        fault("b 2;c 0 001 1 1", 9);
        fault("b 2;c 0 1 1 1x", 13);
    }

    private static void cablesAndJoints() {
        fault("b 3;c 1 1 1 1", 8);
        fault("b 3;c 1 0 1 1", 8);
        fault("b 3;c 1 00 1 1", 9);
        fault("b 3;c 2 2 1 1", 8);
        fault("b 3;c 0 1 1 1;c 0 1 1 1", 18);
        fault("b 3;c 0 2 1 1;c 1 2 1 1", 18);
        fault("b 3;c 0 2 1 1;c 1 02 1 1", 19);
        fault("b 3;c 0 1 1 1;c 0 2 1 1;j 0 0 1 0", 30);
        fault("b 3;c 0 1 1 1;c 1 2 1 1;j 1 0 0 0", 30);
        fault("b 3;c 0 1 1 1;c 1 2 1 1;j 0 0 00 0", 31);
        fault("b 3;c 0 1 1 1;j 0 0 1 0;c 1 2 1 1", 20);
        fault("b 3;c 0 1 1 1;c 1 2 1 1;j 0 0 1", 31);
        fault("b 3;c 0 1 1 1;c 1 2 1 1;j 0 0 1 0", NONE);
    }

    /** What a text with a fault told must not be found in the next one. */
    private static void aFaultLeavesNothing() {
        BuriedPairs town = new BuriedPairs();
        Check.feed(town, "b 8;c 0 1 3 5;c 1 2 3 5;j 0 0 1 0;h 0 1 4;h 1 1 5;x");
        Check.due("its fault", town.fault(), 50);
        Check.due("plan", Check.plan(town, "b 3;c 0 1 4 9;c 1 2 4 9;h 0 0 1"), 0);
        Check.due("cables", town.count(3), 2);
        Check.due("no joint", town.joint(0, 0, 0), NONE);
        Check.due("no joint back", town.metres(0, 0, false, 1, 0, 1), 36);
        Check.due("no house 4", town.house(0, 4), NONE);
        Check.due("nothing hangs at pair 1", town.spare(0, 0, 1), 14);
        Check.due("pairs", town.cable(0, 0, 2), 4);
        Check.due("no box 7", town.walk(0, 7, 7), NONE);
    }

    private static void fullTapes() {
        for (int place = 0; place < 5; place++) {
            BuriedPairs town = new BuriedPairs();
            Check.feed(town, " ".repeat(297));
            int[] four = new int[5];
            four[place] = 0x20202020;
            Check.due("four too many", town.feed(four[0], four[1], four[2], four[3], four[4]), NONE);
            four[place] = 0x20200020;
            Check.due("three", town.feed(four[0], four[1], four[2], four[3], four[4]), 300);
        }
    }

    private static void plansAreMadeOfTexts() {
        BuriedPairs town = new BuriedPairs();
        Check.due("plan of nothing", town.plan(), NONE);
        for (int i = 0; i < 6; i++) {
            Check.due("plan", Check.plan(town, "b " + (2 + i)), i);
            Check.due("plans", town.count(0), i + 1);
        }
        Check.due("a seventh", Check.plan(town, "b 2"), NONE);
        Check.due("its bytes stay", town.count(1), 3);
        Check.due("it has no fault", town.fault(), NONE);
        Check.due("plans", town.count(0), 6);
        Check.due("boxes of plan 0", town.count(2), 2);
        Check.due("a way of none in plan 5", town.walk(5, 6, 6), 0);
        Check.due("no box 7 in plan 5", town.walk(5, 7, 7), NONE);
        town.end(0);
        Check.feed(town, "b 3;c 0 1 1 5;c 0 1");
        Check.due("a fault between does no harm", town.fault(), 18);
        Check.due("plan 1 has none", town.walk(1, 0, 1), NONE);
    }
}
