import java.util.List;
import java.util.function.Supplier;

/** Promises 1 to 5 and part 1 of the terms: each sentence that names an edge, one test a sentence. */
public final class TapeEdgesTest {
    private static final int NONE = BuriedPairs.NONE;
    private static final int MIN = Integer.MIN_VALUE;
    private static final int MAX = Integer.MAX_VALUE;
    private static final int BLANKS = 0x20202020;

    public static void main(String[] args) {
        ofANewObjectNothingIsTold();
        oneObjectHearsNothingOfAnother();
        theConstant();
        twentyBytesComeTheHighestFirst();
        bytesOfNoughtAreLeftOut();
        allOtherBytesCome();
        threeHundredBytesAndNotOneMore();
        everyByteCountsAtTheEnd();
        ofTwentyTooManyNoneComes();
        theTapeHasItsFirstBytesAlone();
        endIsFalseForAWrongNumber();
        whatIsCutIsGone();
        theFaultOfTheTape();
        theFaultOfAFullTape();
        faultChangesNothing();
        thePlanEmptiesTheTape();
        noPlanWithAFault();
        aTextWithAFaultLeavesNothing();
        sixPlansAndNoSeventh();
        aPlanOfThreeHundredBytes();
        Check.finish("TapeEdgesTest");
    }

    private static Supplier<BuriedPairs> tape(String text) {
        return () -> {
            BuriedPairs town = new BuriedPairs();
            Check.feed(town, text);
            return town;
        };
    }

    // Promise 1: "Nothing is told."
    private static void ofANewObjectNothingIsTold() {
        for (int what = 0; what <= 6; what++) {
            Check.due("count(" + what + ") of a new one", new BuriedPairs().count(what), 0);
        }
        Check.due("fault of a new one: it ends too early", new BuriedPairs().fault(), 0);
        Check.due("plan of a new one", new BuriedPairs().plan(), NONE);
        Check.due("the first plan behind it is 0 still", Check.plan(new BuriedPairs(), "b 2"), 0);
        for (int plan : new int[] {MIN, -1, 0, 1, 5, MAX}) {
            PlanNumbers.allRefuse(Towns::fresh, plan);
        }
    }

    // "Nothing is told": whatever others were told, and they keep theirs.
    private static void oneObjectHearsNothingOfAnother() {
        BuriedPairs first = Towns.furnished();
        List<String> before = Picture.of(Towns.furnished());
        BuriedPairs second = new BuriedPairs();
        Check.due("no plan of the other", second.count(0), 0);
        Check.due("no byte of the other", second.count(1), 0);
        Check.due("its own first plan", Check.plan(second, "b 2;c 0 1 1 5"), 0);
        Check.due("its own cable", second.cable(0, 0, 3), 5);
        Check.due("its own first slip", second.slip(0, 1, 0, 0, 9, 0), 0);
        Check.due("its own first fault", second.trouble(0, 1, 0, 0, 0, 3), 0);
        Check.due("its own first test", second.test(0, 1, 0, 0, 0, 0, 0), 0);
        Check.due("its own first reading", second.read(0, 0, false, 12), 1);
        Check.due("its own fitting world", second.fitting(0, 0), 1);
        Check.due("its own wish", second.want(0, 9, 0), true);
        Check.due("the first one looks as before", Picture.of(first).equals(before), true);
    }

    // "NONE = -1"
    private static void theConstant() {
        Check.due("NONE", BuriedPairs.NONE, -1);
    }

    // Promise 2: "Twenty bytes more come to the TAPE (of each number the highest first"
    private static void twentyBytesComeTheHighestFirst() {
        String text = "b 2;c 0 1 1 1       ";
        for (int place = 0; place < 20; place++) {
            String spoilt = text.substring(0, place) + "x" + text.substring(place + 1);
            BuriedPairs town = new BuriedPairs();
            Check.due("twenty bytes", Check.feed(town, spoilt), 20);
            Check.due("x stands at " + place, town.fault(), place);
        }
        BuriedPairs town = new BuriedPairs();
        Check.due("twenty", Check.feed(town, text), 20);
        Check.due("twenty more", Check.feed(town, ";h 0 0 9            "), 40);
        Check.due("both together are a plan", town.plan(), 0);
        Check.due("of both", town.house(0, 9), 0);
    }

    // Promise 2: "bytes of 0 are left out"
    private static void bytesOfNoughtAreLeftOut() {
        Check.due("none of twenty", new BuriedPairs().feed(0, 0, 0, 0, 0), 0);
        for (int place = 0; place < 20; place++) {
            int[] n = new int[5];
            n[place / 4] = 'b' << 24 - place % 4 * 8;
            BuriedPairs town = new BuriedPairs();
            Check.due("one byte at " + place, town.feed(n[0], n[1], n[2], n[3], n[4]), 1);
            Check.due("the tape goes on behind it", Check.feed(town, " 2"), 3);
            Check.due("without a gap", town.fault(), NONE);
        }
        BuriedPairs town = new BuriedPairs();
        Check.due("gaps close", town.feed('b', ' ' << 8, '0' << 16, '2' << 24, ' '), 5);
        Check.due("in their order", town.fault(), NONE);
    }

    // Promise 2: a number is any int; a byte is any but 0.
    private static void allOtherBytesCome() {
        for (int one = 1; one < 256; one++) {
            BuriedPairs town = new BuriedPairs();
            Check.due("byte " + one, town.feed(one, one << 8, one << 16, one << 24, 0), 4);
            Check.due("fault of byte " + one, town.fault(), one == ' ' ? 4 : one == 'b' ? 1 : 0);
        }
        Check.due("the outermost ints", new BuriedPairs().feed(MIN, MAX, -1, 1, 256), 11);
    }

    // Promise 2: "NONE: more than 300."
    private static void threeHundredBytesAndNotOneMore() {
        BuriedPairs town = new BuriedPairs();
        for (int i = 1; i <= 15; i++) {
            Check.due("twenty by twenty", town.feed(BLANKS, BLANKS, BLANKS, BLANKS, BLANKS), 20 * i);
        }
        Check.due("none more is not more than 300", town.feed(0, 0, 0, 0, 0), 300);
        Supplier<BuriedPairs> fullTape = tape(" ".repeat(300));
        for (int place = 0; place < 20; place++) {
            int[] n = new int[5];
            n[place / 4] = ' ' << 24 - place % 4 * 8;
            Edges.unchanged("the 301st byte", fullTape, t -> t.feed(n[0], n[1], n[2], n[3], n[4]), NONE);
        }
        BuriedPairs nearly = tape(" ".repeat(299)).get();
        Check.due("the 300th byte, noughts about it", nearly.feed(0, 0, 0x00200000, 0, 0), 300);
    }

    // Promise 2: any byte but 0 is one too many, and the 300th, too.
    private static void everyByteCountsAtTheEnd() {
        for (int one = 1; one < 256; one++) {
            BuriedPairs full = tape(" ".repeat(300)).get();
            for (int shift = 0; shift < 32; shift += 8) {
                Check.due("byte " + one + " is the 301st", full.feed(0, 0, 0, 0, one << shift), NONE);
                BuriedPairs nearly = tape(" ".repeat(299)).get();
                Check.due("byte " + one + " is the 300th", nearly.feed(one << shift, 0, 0, 0, 0), 300);
            }
            Check.due("none came", full.count(1), 300);
        }
        for (int many = 1; many <= 20; many++) {
            int[] n = new int[5];
            for (int i = 0; i < many; i++) {
                n[i * 7 % 20 / 4] |= 0x80 << i * 7 % 4 * 8;
            }
            BuriedPairs fits = tape(" ".repeat(300 - many)).get();
            Check.due(many + " more", fits.feed(n[0], n[1], n[2], n[3], n[4]), 300);
            BuriedPairs over = tape(" ".repeat(301 - many)).get();
            Check.due(many + " more are one too many", over.feed(n[0], n[1], n[2], n[3], n[4]), NONE);
        }
    }

    // Promise 2: "NONE: more than 300": what is refused changes nothing.
    private static void ofTwentyTooManyNoneComes() {
        String text = "b 2;c 0 1 1 1" + " ".repeat(268);
        Edges.unchanged("281 and 20", tape(text), t -> t.feed(-1, -1, -1, -1, -1), NONE);
        Edges.unchanged("299 and 2", tape(text + " ".repeat(18)), t -> t.feed(0, 0, 0, 0, 0x7878), NONE);
        BuriedPairs town = tape(text).get();
        Check.due("281 and 19", town.feed(BLANKS, BLANKS, BLANKS, BLANKS, BLANKS >>> 8), 300);
        Check.due("are a plan", town.plan(), 0);
        BuriedPairs other = tape(" ".repeat(280)).get();
        Check.due("280 and 20", other.feed(BLANKS, BLANKS, BLANKS, BLANKS, BLANKS), 300);
    }

    // Promise 3: "The TAPE has its first n bytes alone."
    private static void theTapeHasItsFirstBytesAlone() {
        BuriedPairs town = tape("b 2;c 0 1 1 1;x").get();
        Check.due("its fault", town.fault(), 14);
        Check.due("all of it", town.end(15), true);
        Check.due("all of it is there", town.count(1), 15);
        Check.due("but the last", town.end(14), true);
        Check.due("its fault: too early an end", town.fault(), 14);
        Check.due("but two", town.end(13), true);
        Check.due("the first ones stay", town.fault(), NONE);
        Check.due("a few", town.end(3), true);
        Check.due("three are left", town.count(1), 3);
        Check.due("none", town.end(0), true);
        Check.due("none are left", town.count(1), 0);
        Check.due("the fault of none", town.fault(), 0);
        Check.due("none of none", town.end(0), true);
    }

    // Promise 3: "False: n."
    private static void endIsFalseForAWrongNumber() {
        Edges.Call end = (town, n) -> town.end(n[0]) ? 1 : 0;
        new Edges("end, empty", Towns::fresh, end, 0, 0).goes(0, 0, 1, 0, 1);
        new Edges("end, one byte", tape("b"), end, 0, 0).goes(0, 0, 1, 1, 1);
        new Edges("end, a text", tape("b 2;c 0 1 1 1"), end, 0, 0).goes(0, 0, 1, 13, 1);
        new Edges("end, full", tape("b 2" + " ".repeat(297)), end, 0, 0).goes(0, 0, 1, 300, 1);
        new Edges("end beside plans", Towns::furnished, end, 0, 0).goes(0, 0, 1, 13, 1);
    }

    // Promise 3: "alone": what was behind comes back by no call.
    private static void whatIsCutIsGone() {
        BuriedPairs town = tape("b 2;c 0 1 1 1").get();
        town.end(3);
        Check.due("four are no more", town.end(4), false);
        Check.due("three are", town.count(1), 3);
        Check.due("new ones come behind the third", Check.feed(town, ";c 0 1 2 2"), 13);
        Check.due("they are a plan", town.plan(), 0);
        Check.due("as the new ones tell", town.cable(0, 0, 3), 2);
        BuriedPairs full = tape(" ".repeat(300)).get();
        full.end(299);
        Check.due("room for one", full.feed(' ', 0, 0, 0, 0), 300);
        full.end(0);
        Check.due("room for all", Check.feed(full, "b 2" + " ".repeat(297)), 300);
        Check.due("and none of the old", full.fault(), NONE);
    }

    // Promise 4: "The FAULT of the TAPE; NONE."
    private static void theFaultOfTheTape() {
        Check.due("empty", new BuriedPairs().fault(), 0);
        Check.due("the first byte", tape("x").get().fault(), 0);
        Check.due("too early an end", tape("b").get().fault(), 1);
        Check.due("none", tape("b 2").get().fault(), NONE);
        Check.due("of two the first", tape("b 9;x").get().fault(), 2);
        BuriedPairs six = Towns.full();
        Check.due("with six plans, too: none", six.fault(), NONE);
        Check.feed(six, "x");
        Check.due("with six plans, too: the last byte", six.fault(), 13);
    }

    // Promise 4 on a tape of 300 bytes.
    private static void theFaultOfAFullTape() {
        Check.due("none", tape("b 2" + " ".repeat(297)).get().fault(), NONE);
        Check.due("none, blanks ahead", tape(" ".repeat(297) + "b 2").get().fault(), NONE);
        Check.due("none, blanks within", tape("b" + " ".repeat(298) + "2").get().fault(), NONE);
        Check.due("the last byte", tape("b 2" + " ".repeat(296) + "x").get().fault(), 299);
        Check.due("the last digit", tape("b" + " ".repeat(298) + "9").get().fault(), 299);
        Check.due("it ends too early", tape("b 2" + " ".repeat(296) + ";").get().fault(), 300);
        Check.due("blanks alone", tape(" ".repeat(300)).get().fault(), 300);
        StringBuilder many = new StringBuilder("b 2;c 0 1 1 1");
        while (many.length() + 8 <= 300) {
            many.append(";h 0 0 9");
        }
        Check.due("as many statements as there is room for", tape(many.toString()).get().fault(), NONE);
    }

    // Promise 4 is a question.
    private static void faultChangesNothing() {
        Edges.unchanged("fault of nothing", Towns::fresh, BuriedPairs::fault, 0);
        Edges.unchanged("fault of a plan", Towns::furnished, BuriedPairs::fault, NONE);
        Edges.unchanged("fault of a wrong one", tape("b 5;c 0 1 6 9;h 0 5 4;h 0 0 10"), BuriedPairs::fault, 29);
    }

    // Promise 5: "The TAPE (empty then) is a PLAN: its number."
    private static void thePlanEmptiesTheTape() {
        BuriedPairs town = tape("b 2;c 0 1 1 1").get();
        Check.due("the first", town.plan(), 0);
        Check.due("empty", town.count(1), 0);
        Check.due("an empty one ends too early", town.fault(), 0);
        Check.due("no bytes are left to keep", town.end(1), false);
        Check.due("an empty one is no plan", town.plan(), NONE);
        Check.due("one plan", town.count(0), 1);
        Check.due("from the start again", Check.feed(town, "b 3"), 3);
        Check.due("the second", town.plan(), 1);
    }

    // Promise 5: "NONE: a FAULT"
    private static void noPlanWithAFault() {
        Edges.unchanged("plan of nothing", Towns::fresh, BuriedPairs::plan, NONE);
        Edges.unchanged("plan of a wrong byte", tape("b 2;c 0 1 1 1x"), BuriedPairs::plan, NONE);
        Edges.unchanged("plan of too early an end", tape("b 2;c 0 1 1"), BuriedPairs::plan, NONE);
        Edges.unchanged("plan of a number", tape("b 2;c 0 1 7 1"), BuriedPairs::plan, NONE);
        BuriedPairs town = tape("b 2;").get();
        Check.due("refused", town.plan(), NONE);
        town.end(3);
        Check.due("mended, it has the number that was due", town.plan(), 0);
    }

    // Promises 4 and 5: what a text with a fault told is not found in the next one.
    private static void aTextWithAFaultLeavesNothing() {
        String next = "b 3;c 0 1 2 4;c 1 2 2 4";
        for (String wrong : new String[] {"b 8;c 0 1 3 5;c 1 2 3 5;j 0 0 1 0;j 0 1 1 1;h 0 1 4;h 1 1 5;h 0 0 6;",
            "b 8;c 0 2 6 9;c 2 3 6 9;c 0 1 6 9;c 3 4 6 9;j 0 0 1 0;h 2 0 0;x"}) {
            Supplier<BuriedPairs> without = () -> Check.town(next);
            Supplier<BuriedPairs> behind = () -> {
                BuriedPairs town = tape(wrong).get();
                Check.due("its fault", town.fault() != NONE, true);
                Check.due("it is no plan", town.plan(), NONE);
                Check.due("the next one is", Check.plan(town, next), 0);
                return town;
            };
            Check.due("alike", Picture.of(behind.get()).equals(Picture.of(without.get())), true);
            Check.due("nothing hangs or goes on", behind.get().spare(0, 0, 1), 3);
            Check.due("nothing comes", behind.get().metres(0, 0, false, 1, 0, 1), 16);
        }
    }

    // Promise 5: "NONE: .. there are six."
    private static void sixPlansAndNoSeventh() {
        BuriedPairs town = new BuriedPairs();
        for (int plan = 0; plan < 6; plan++) {
            Check.due("plan", Check.plan(town, "b " + (plan + 3)), plan);
        }
        Check.due("six", town.count(0), 6);
        for (int plan = 0; plan < 6; plan++) {
            Check.due("its last box", town.walk(plan, plan + 2, plan + 2), 0);
            Check.due("and no more", town.walk(plan, plan + 3, plan + 3), NONE);
        }
        Edges.unchanged("a seventh", Towns::full, BuriedPairs::plan, NONE);
        Edges.unchanged("a seventh, with a fault", () -> {
            BuriedPairs full = Towns.full();
            full.end(12);
            return full;
        }, BuriedPairs::plan, NONE);
    }

    // Promises 2 and 5 at their fullest.
    private static void aPlanOfThreeHundredBytes() {
        String text = Towns.LARGEST + " ".repeat(300 - Towns.LARGEST.length());
        BuriedPairs town = tape(text).get();
        Check.due("all there", town.count(1), 300);
        Check.due("a plan", town.plan(), 0);
        Check.due("boxes", town.count(2), 8);
        Check.due("cables", town.count(3), 7);
        Check.due("the last house", town.house(0, 9), 45);
        Check.due("room again", Check.feed(town, text), 300);
        Check.due("another", town.plan(), 1);
    }
}
