import java.util.function.Supplier;

/** Part 3 of the terms and promises 18 to 26: tests, readings and the worlds that fit, one test a sentence. */
public final class ReadingEdgesTest {
    private static final int NONE = BuriedPairs.NONE;
    private static final int MIN = Integer.MIN_VALUE;
    private static final int MAX = Integer.MAX_VALUE;
    private static final int ALL = 15;

    public static void main(String[] args) {
        testOfATone();
        testOfMetres();
        testOfNoSuchKind();
        twelveTests();
        refusedTestsChangeNoOther();
        tellsOfNoSuchOnes();
        tellsWhatHeardAndMetresTell();
        tellsAtEachEndOfEachCable();
        readOfNoSuchTest();
        toldBelowNought();
        twentyFourReadings();
        unreadTakesTheLatest();
        unreadOfNone();
        fittingHowManyAndWhich();
        fittingWithoutAReading();
        fittingWhereNoneFits();
        fittingAfterEachChange();
        everyReadingCounts();
        fewestOfNone();
        fewestWithTheLowerFault();
        fewestOfAllNumbers();
        sureOfNoSuchOnes();
        sureWhereNoneFits();
        sureOfOneAndOfAll();
        sureOfEither();
        partsOfNoSuchOnes();
        partsWhereNoneFits();
        partsOfOneAndOfMost();
        partsOfTheFarthestMetres();
        nextOfNoSuchOnes();
        nextFarEnough();
        nextWhereThereIsNone();
        nextOfSeveral();
        nextByTheLargestNotTheKinds();
        theBoxOfATest();
        theQuestionsChangeNothing();
        Check.finish("ReadingEdgesTest");
    }

    private static Edges furnished(String name, Edges.Call call, int... fine) {
        return new Edges(name, Towns::furnished, call, NONE, fine);
    }

    private static long test(BuriedPairs town, int... n) {
        return town.test(n[0], n[1], n[2], n[3], n[4], n[5], n[6]);
    }

    // Promise 18: "kind 0 (CABLE x, PAIR p, end; CABLE y, its end)", "NONE: no such ones"
    private static void testOfATone() {
        furnished("test of a tone", ReadingEdgesTest::test, 0, 0, 0, 0, 0, 1, 1)
            .goes(0, 0, 3, 1, 1)
            .goes(2, 0, 3, 3, 3)
            .goes(3, 0, 3, 5, 3)
            .goes(4, 0, 3, 1, 3)
            .goes(5, 0, 3, 3, 3)
            .goes(6, 0, 3, 1, 3)
            .refuses(0, 0, 2, 2, 0, 1, 1)
            .refuses(1, 0, 0, 0, 0, 2, 1)
            .refuses(1, 0, 2, 0, 0, 0, 1);
    }

    // Promise 18: "1 (y, its are not asked)", "NONE: no such ones"
    private static void testOfMetres() {
        furnished("test of metres", ReadingEdgesTest::test, 0, 1, 0, 0, 0, 1, 1)
            .goes(0, 0, 3, 1, 1)
            .goes(2, 0, 3, 3, 3)
            .goes(3, 0, 3, 5, 3)
            .goes(4, 0, 3, 1, 3)
            .isNotAsked(5)
            .isNotAsked(6)
            .refuses(0, 1, 3, 2, 0, 1, 1);
        BuriedPairs town = Towns.furnished();
        town.test(0, 1, 0, 0, 0, MIN, MAX);
        Check.due("it measures at x whatever y and its are", town.tells(0, 3, 0, false), 117);
    }

    private static void testOfNoSuchKind() {
        furnished("test of a kind", ReadingEdgesTest::test, 0, 0, 0, 0, 0, 1, 1).goes(1, 0, 3, 1, 3);
    }

    // "TESTS (12 at most of a PLAN)", promise 18: "NONE: .. there are twelve."
    private static void twelveTests() {
        BuriedPairs town = Towns.furnished();
        for (int test = 3; test < 12; test++) {
            Check.due("its number", town.test(0, test % 2, 0, 0, 0, 0, 1), test);
            Check.due("so many", town.count(5), test + 1);
        }
        Check.due("the twelfth tells", town.tells(0, 11, 0, false), 117);
        Check.due("another plan takes its own", town.test(1, 1, 0, 0, 0, 0, 0), 1);
        Edges.unchanged("a thirteenth, a tone", Towns::full, t -> t.test(0, 0, 0, 0, 0, 0, 0), NONE);
        Edges.unchanged("a thirteenth, metres", Towns::full, t -> t.test(0, 1, 0, 0, 0, 0, 0), NONE);
        Edges.unchanged("a thirteenth that is none", Towns::full, t -> t.test(0, 2, 0, 0, 0, 0, 0), NONE);
    }

    // "What is refused .. changes nothing": the tests that are stand as they were told.
    private static void refusedTestsChangeNoOther() {
        Supplier<BuriedPairs> maker = () -> {
            BuriedPairs town = Check.town(Towns.TEXT);
            town.test(0, 1, 1, 0, 1, 0, 0);
            town.test(0, 0, 0, 5, 1, 1, 1);
            town.test(0, 1, 3, 1, 1, 0, 0);
            return town;
        };
        Check.due("29 metres back from house 1", maker.get().tells(0, 0, 0, false), 116);
        Check.due("heard on pair 3", maker.get().tells(0, 1, 0, false), 8);
        Check.due("24 metres back from house 3", maker.get().tells(0, 2, 0, false), 96);
        new Edges("test beside others", maker, ReadingEdgesTest::test, NONE, 0, 0, 0, 0, 0, 1, 1)
            .refuses(0, 2, 0, 0, 0, 1, 1)
            .refuses(0, 0, 4, 0, 0, 1, 1)
            .refuses(0, 0, 0, 6, 0, 1, 1)
            .refuses(0, 0, 0, 0, 2, 1, 1)
            .refuses(0, 0, 0, 0, 0, 4, 1)
            .refuses(0, 0, 0, 0, 0, 1, 2)
            .refuses(0, 1, 4, 0, 0, 0, 0)
            .refuses(0, 1, 0, 6, 0, 0, 0)
            .refuses(0, 1, 0, 0, 2, 0, 0);
    }

    // Promise 19: "NONE: no such ones."
    private static void tellsOfNoSuchOnes() {
        furnished("tells", (town, n) -> town.tells(n[0], n[1], n[2], true), 0, 0, 0)
            .goes(0, 0, 1, 1, 33)
            .goes(1, 0, 1, 2, 117)
            .goes(2, 0, 1, ALL, 0)
            .refuses(1, 1, 0)
            .refuses(1, 0, 2);
        new Edges("tells of twelve", Towns::full, (town, n) -> town.tells(n[0], n[1], n[2], false), NONE, 0, 0, 0)
            .goes(1, 0, Towns.full().heard(0, 0, false, 0, 0, 0, 6, 0), 11, Towns.full().metres(0, 0, false, 4, 5, 1));
        Check.due("no test yet", Check.town(Towns.TEXT).tells(0, 0, 0, false), NONE);
    }

    // Promise 19: "What a TEST tells in a WORLD."
    private static void tellsWhatHeardAndMetresTell() {
        BuriedPairs town = Towns.furnished();
        for (int world = 0; world <= ALL; world++) {
            for (boolean wet : new boolean[] {false, true}) {
                int tone = town.heard(0, world, wet, 0, 0, 0, 1, 1);
                Check.due("the tone in " + world, town.tells(0, 0, world, wet), tone);
                int metres = town.metres(0, world, wet, 1, 1, 1);
                Check.due("the metres in " + world, town.tells(0, 1, world, wet), metres);
            }
        }
    }

    // "a CABLE and end where one listens"; "1 METRES: where"
    private static void tellsAtEachEndOfEachCable() {
        for (int at = 0; at < 8; at++) {
            BuriedPairs town = Towns.furnished();
            int cable = at / 2;
            int end = at % 2;
            Check.due("a tone", town.test(0, 0, 0, 2, 0, cable, end), 3);
            Check.due("metres", town.test(0, 1, cable, 1, end, 0, 0), 4);
            int[] tone = {4, 4, 0, 0, 1, 1, 2, 2};
            int[] metres = {117, 36, 81, 116, 29, 28, 33, 96};
            Check.due("what is heard at " + at, town.tells(0, 3, 0, true), tone[at]);
            Check.due("what is measured at " + at, town.tells(0, 4, 0, true), metres[at]);
            int[] crossed = {1, 2, 2, 2, 0, 0, 0, 0};
            Check.due("a tone of pair 0", town.test(0, 0, 0, 0, 0, cable, end), 5);
            Check.due("by the numbers at " + at, town.tells(0, 5, 1, false), crossed[at]);
        }
    }

    // Promise 20: "NONE: no such TEST"
    private static void readOfNoSuchTest() {
        furnished("read", (town, n) -> town.read(n[0], n[1], false, n[2]), 0, 0, 1)
            .goes(0, 0, 3, 1, 2)
            .goes(1, 0, 3, 2, 3)
            .refuses(1, 1, 0);
        Supplier<BuriedPairs> without = () -> Check.town(Towns.TEXT);
        Edges.unchanged("no test yet", without, t -> t.read(0, 0, false, 0), NONE);
    }

    // Promise 20: "NONE: .. told below 0"
    private static void toldBelowNought() {
        furnished("read", (town, n) -> town.read(n[0], n[1], true, n[2]), 0, 0, 1).goes(2, 0, 3, MAX, 3);
    }

    // "READINGS (24 at most)", promise 20: "NONE: .. there are 24."
    private static void twentyFourReadings() {
        BuriedPairs town = Towns.furnished();
        for (int many = 3; many <= 24; many++) {
            Check.due("so many", town.read(0, many % 3, many % 2 == 0, many), many);
            Check.due("so many are counted", town.count(6), many);
        }
        Check.due("another plan takes its own", town.read(1, 0, true, 0), 2);
        Edges.unchanged("a 25th", Towns::full, t -> t.read(0, 0, false, 0), NONE);
        Edges.unchanged("a 25th of no test", Towns::full, t -> t.read(0, 12, false, 0), NONE);
        BuriedPairs full = Towns.full();
        Check.due("one less", full.unread(0), 23);
        Check.due("makes room for one", full.read(0, 0, false, 0), 24);
        Check.due("and no more", full.read(0, 0, false, 0), NONE);
        theTwentyFourStand(0);
        theTwentyFourStand(23);
    }

    /** One of 24 readings, the first or the last, tells that pair 0 is cut: a 25th that denies it is not heard. */
    private static void theTwentyFourStand(int place) {
        BuriedPairs town = Check.town("b 2;c 0 1 2 9");
        town.trouble(0, 1, 0, 0, 0, 4);
        town.test(0, 1, 0, 0, 0, 0, 0);
        town.test(0, 1, 0, 1, 0, 0, 0);
        for (int i = 0; i < 24; i++) {
            Check.due("read", town.read(0, i == place ? 0 : 1, false, i == place ? 16 : 36), i + 1);
        }
        Check.due("a 25th that tells of a whole wire", town.read(0, 0, false, 36), NONE);
        Check.due("still the one world with the break", town.fitting(0, 0), 1);
        Check.due("a 25th that no world tells", town.read(0, 1, false, 1), NONE);
        Check.due("still one", town.fitting(0, NONE), 1);
        for (int left = 23; left >= 0; left--) {
            Check.due("unread", town.unread(0), left);
            Check.due("the break is sure while that reading stands", town.sure(0, 0), left > place ? 1 : 0);
        }
    }

    // Promise 21: "The latest READING is none: how many there are."
    private static void unreadTakesTheLatest() {
        BuriedPairs town = Towns.furnished();
        Check.due("both: no swap, and the touch", town.fitting(0, NONE), 4);
        Check.due("one is left", town.unread(0), 1);
        Check.due("the first: no swap", town.sure(0, 1), 14);
        Check.due("so eight", town.fitting(0, NONE), 8);
        Check.due("none is left", town.unread(0), 0);
        Check.due("so all", town.fitting(0, NONE), 16);
        Check.due("the other plan has its own", town.unread(1), 0);
    }

    // Promise 21: "NONE: there is none, no such PLAN."
    private static void unreadOfNone() {
        furnished("unread", (town, n) -> town.unread(n[0]), 0).goes(0, 0, 1, 1, 0);
        Supplier<BuriedPairs> none = () -> {
            BuriedPairs town = Towns.furnished();
            town.unread(0);
            town.unread(0);
            return town;
        };
        Edges.unchanged("unread of none", none, t -> t.unread(0), NONE);
        BuriedPairs town = none.get();
        town.unread(0);
        Check.due("then one is the first", town.read(0, 0, false, 1), 1);
    }

    // Promise 22: "how many (i NONE), the i-th by numbers. NONE: without, no such PLAN."
    private static void fittingHowManyAndWhich() {
        furnished("fitting", (town, n) -> town.fitting(n[0], n[1]), 0, 0)
            .goes(0, 0, 4, 1, 0)
            .goes(1, NONE, 4, 3, 14)
            .takes(4, 0, 0)
            .takes(6, 0, 1)
            .takes(12, 0, 2)
            .takes(1, 1, NONE)
            .refuses(1, 1);
    }

    // "FITTING: WORLDS by which each READING is as told": without one all do.
    private static void fittingWithoutAReading() {
        Check.due("no cable, one world", Check.town("b 2").fitting(0, NONE), 1);
        Check.due("that is 0", Check.town("b 2").fitting(0, 0), 0);
        Check.due("no second", Check.town("b 2").fitting(0, 1), NONE);
        Supplier<BuriedPairs> ten = () -> {
            BuriedPairs town = Check.town("b 2;c 0 1 1 1");
            for (int fault = 0; fault < 10; fault++) {
                Check.due("so many", town.fitting(0, NONE), 1 << fault);
                town.trouble(0, 1, 0, 0, 0, 1);
            }
            return town;
        };
        new Edges("fitting of ten", ten, (town, n) -> town.fitting(n[0], n[1]), NONE, 0, 0)
            .goes(1, NONE, 1024, 1023, 1023)
            .takes(0, 0, 0)
            .takes(512, 0, 512);
    }

    // Promise 22 where no world fits.
    private static void fittingWhereNoneFits() {
        new Edges("fitting of none", Towns::unfitting, (town, n) -> town.fitting(n[0], n[1]), NONE, 0, NONE)
            .goes(1, NONE, 0, NONE, 0);
        BuriedPairs town = Towns.unfitting();
        town.unread(0);
        Check.due("without that reading they fit again", town.fitting(0, NONE), 4);
        town.read(0, 0, false, MAX);
        Check.due("what nothing tells fits nothing", town.fitting(0, NONE), 0);
    }

    // What fits is asked anew behind each thing that is told.
    private static void fittingAfterEachChange() {
        BuriedPairs town = Towns.furnished();
        Check.due("at first", town.fitting(0, NONE), 4);
        town.trouble(0, 1, 0, 4, 0, 3);
        Check.due("one fault more", town.fitting(0, NONE), 8);
        town.read(0, 1, false, 56);
        Check.due("one reading more: the break at 6", town.fitting(0, NONE), 4);
        Check.due("first", town.fitting(0, 0), 6);
        town.test(0, 0, 0, 4, 0, 0, 1);
        town.read(0, 3, false, 0);
        Check.due("one test more, read: the new break", town.fitting(0, NONE), 2);
        Check.due("both breaks and the touch", town.fewest(0), 22);
        Check.due("with the slip undone or not", town.sure(0, 1), 30);
        Check.due("a slip more", town.slip(0, 0, 0, 1, 1, 0), 2);
        Check.due("as many, but other ones", town.fitting(0, NONE), 2);
        Check.due("by it the tone needs the swap", town.fewest(0), 23);
        Check.due("a fault: it is undone", town.trouble(0, 3, 2, 0, 0, 0), 5);
        Check.due("then both do", town.fitting(0, NONE), 4);
        Check.due("those of before", town.fitting(0, 2), 54);
        Check.due("another plan's are its own", town.fitting(1, NONE), 1);
    }

    // "each READING": the first and the last of 24, wet and dry.
    private static void everyReadingCounts() {
        for (int wrong = 0; wrong < 24; wrong++) {
            BuriedPairs town = Check.town("b 2;c 0 1 2 9");
            town.trouble(0, 2, 0, 0, 1, 4);
            for (int test = 0; test < 12; test++) {
                town.test(0, 1, 0, test % 2, 0, 0, 0);
            }
            for (int i = 0; i < 24; i++) {
                town.read(0, i / 2, i % 2 == 0, i == wrong ? 5 : i % 2 == 0 ? 18 : 36);
            }
            Check.due("reading " + wrong + " fits none", town.fitting(0, NONE), 0);
        }
    }

    // Promise 23: "NONE: none fits, no such PLAN."
    private static void fewestOfNone() {
        furnished("fewest", (town, n) -> town.fewest(n[0]), 0).goes(0, 0, 4, 1, 0);
        Edges.unchanged("none fits", Towns::unfitting, t -> t.fewest(0), NONE);
        Check.due("no fault at all is the fewest", Check.town("b 2").fewest(0), 0);
    }

    // "of several the set with the lower FAULT where two first differ"
    private static void fewestWithTheLowerFault() {
        for (int first = 0; first < 9; first++) {
            BuriedPairs town = Check.town("b 2;c 0 1 2 9");
            town.test(0, 1, 0, 0, 0, 0, 0);
            for (int fault = 0; fault < 10; fault++) {
                town.trouble(0, 1, 0, fault == first || fault == 9 ? 0 : 1, 0, 4);
            }
            town.read(0, 0, false, 16);
            Check.due("fault " + first + " alone, not 9", town.fewest(0), 1 << first);
        }
        BuriedPairs all = Check.town("b 2;c 0 1 2 9");
        all.test(0, 0, 0, 0, 0, 0, 1);
        for (int fault = 0; fault < 10; fault++) {
            all.trouble(0, 2, 0, 0, 1, fault);
        }
        all.read(0, 0, true, 3);
        Check.due("one of ten", all.fewest(0), 1);
        Check.due("of all but none", all.fitting(0, NONE), 1023);
    }

    // "with the fewest FAULTS": whatever their numbers.
    private static void fewestOfAllNumbers() {
        BuriedPairs town = Check.town("b 2;c 0 1 6 9");
        town.test(0, 0, 0, 0, 0, 0, 1);
        town.trouble(0, 0, 0, 0, 1, 0);
        town.trouble(0, 0, 0, 1, 2, 0);
        town.trouble(0, 0, 0, 0, 2, 0);
        town.read(0, 0, false, 4);
        Check.due("first by numbers is {0, 1}", town.fitting(0, 0), 3);
        Check.due("the fewest is {2}", town.fewest(0), 4);
        BuriedPairs two = Check.town("b 2;c 0 1 6 9");
        two.test(0, 0, 0, 0, 0, 0, 1);
        two.trouble(0, 0, 0, 0, 1, 0);
        two.trouble(0, 0, 0, 0, 2, 0);
        two.trouble(0, 0, 0, 2, 5, 0);
        two.trouble(0, 0, 0, 1, 5, 0);
        two.read(0, 0, false, 32);
        Check.due("first by numbers is {1, 2}", two.fitting(0, 0), 6);
        Check.due("but {0, 3} has the lower fault", two.fewest(0), 9);
        two.trouble(0, 0, 0, 0, 5, 0);
        Check.due("and {4} is fewer", two.fewest(0), 16);
    }

    // Promise 24: "SURE (0), MAY (1)", "NONE: .. no such ones."
    private static void sureOfNoSuchOnes() {
        furnished("sure", (town, n) -> town.sure(n[0], n[1]), 0, 0)
            .goes(0, 0, 4, 1, 0)
            .goes(1, 0, 4, 1, 14);
    }

    // Promise 24: "NONE: none fits"
    private static void sureWhereNoneFits() {
        Edges.unchanged("sure", Towns::unfitting, t -> t.sure(0, 0), NONE);
        Edges.unchanged("may", Towns::unfitting, t -> t.sure(0, 1), NONE);
    }

    // "SURE: FAULTS in all FITTING WORLDS; MAY: in some": with one world, and with all of ten faults.
    private static void sureOfOneAndOfAll() {
        BuriedPairs town = Check.town("b 2;c 0 1 1 9");
        Check.due("no fault: none is sure", town.sure(0, 0), 0);
        Check.due("none may be", town.sure(0, 1), 0);
        for (int fault = 0; fault < 10; fault++) {
            town.trouble(0, 1, 0, 0, 0, fault);
        }
        Check.due("ten: none is sure", town.sure(0, 0), 0);
        Check.due("all may be", town.sure(0, 1), 1023);
        town.test(0, 1, 0, 0, 0, 0, 0);
        town.test(0, 1, 0, 0, 1, 0, 0);
        town.read(0, 0, false, 36);
        Check.due("the last, or none", town.fitting(0, NONE), 2);
        Check.due("so it is not sure", town.sure(0, 0), 0);
        Check.due("but may be", town.sure(0, 1), 512);
        town.read(0, 1, false, 0);
        Check.due("the last alone", town.fitting(0, NONE), 1);
        Check.due("is sure", town.sure(0, 0), 512);
        Check.due("and may be", town.sure(0, 1), 512);
        town.unread(0);
        town.unread(0);
        town.read(0, 0, false, 0);
        town.read(0, 1, false, 0);
        Check.due("the first and the last are sure", town.sure(0, 0), 513);
        Check.due("all may be", town.sure(0, 1), 1023);
    }

    // "in all FITTING WORLDS", not in the first or the last alone.
    private static void sureOfEither() {
        BuriedPairs town = Check.town("b 2;c 0 1 2 9");
        town.test(0, 0, 0, 0, 0, 0, 1);
        town.trouble(0, 1, 0, 0, 0, 2);
        town.trouble(0, 1, 0, 0, 0, 3);
        town.trouble(0, 1, 0, 1, 0, 3);
        town.read(0, 0, false, 0);
        Check.due("either break, or both", town.fitting(0, NONE), 6);
        Check.due("the first is {0}", town.fitting(0, 0), 1);
        Check.due("but neither is sure", town.sure(0, 0), 0);
        Check.due("all may be", town.sure(0, 1), 7);
        BuriedPairs two = Check.town("b 2;c 0 1 2 9");
        two.test(0, 0, 0, 0, 0, 0, 1);
        two.trouble(0, 0, 0, 0, 1, 0);
        two.trouble(0, 0, 0, 1, 0, 0);
        two.read(0, 0, false, 2);
        Check.due("one swap or the other", two.fitting(0, NONE), 2);
        Check.due("neither is sure", two.sure(0, 0), 0);
        Check.due("both may be", two.sure(0, 1), 3);
    }

    // Promise 25: "LARGEST (0), KINDS (1)", "NONE: no such ones."
    private static void partsOfNoSuchOnes() {
        furnished("parts", (town, n) -> town.parts(n[0], n[1], false, n[2]), 0, 1, 0)
            .goes(1, 0, 4, 2, 2)
            .goes(2, 0, 2, 1, 2)
            .refuses(2, 0, 0)
            .refuses(-1, 0, 0)
            .refuses(1, 1, 0);
        furnished("parts of plans", (town, n) -> town.parts(n[0], n[1], true, n[2]), 0, 0, 0).goes(0, 0, 4, 1, 1);
    }

    // Promise 25 names no world that fits among what is refused: none tell the same, and nothing could be told.
    private static void partsWhereNoneFits() {
        Edges.unchanged("largest", Towns::unfitting, t -> t.parts(0, 0, false, 0), 0);
        Edges.unchanged("kinds", Towns::unfitting, t -> t.parts(0, 0, true, 1), 0);
        BuriedPairs town = Towns.unfitting();
        town.parts(0, 1, false, 0);
        town.unread(0);
        Check.due("then they fit again", town.parts(0, 1, false, 0), 2);
    }

    // "LARGEST: how many tell the same at most; KINDS: how many things could be told": from 1 to 1024.
    private static void partsOfOneAndOfMost() {
        BuriedPairs one = Check.town("b 2;c 0 1 1 9");
        one.test(0, 1, 0, 0, 0, 0, 0);
        Check.due("one world tells one thing", one.parts(0, 0, false, 1), 1);
        Check.due("alone", one.parts(0, 0, false, 0), 1);
        BuriedPairs town = Check.town("b 3;c 0 1 2 9;c 0 2 1 9");
        town.test(0, 1, 1, 0, 0, 0, 0);
        town.test(0, 1, 0, 0, 0, 0, 0);
        town.test(0, 0, 0, 0, 0, 0, 1);
        for (int fault = 0; fault < 10; fault++) {
            town.trouble(0, fault % 5 == 4 ? 2 : 1, 0, 0, 1, fault);
        }
        Check.due("all tell the same", town.parts(0, 0, true, 0), 1024);
        Check.due("of one kind", town.parts(0, 0, true, 1), 1);
        Check.due("half tell of the break at 0", town.parts(0, 1, false, 0), 512);
        Check.due("eight breaks, or none", town.parts(0, 1, false, 1), 9);
        Check.due("wet: half tell of it, too", town.parts(0, 1, true, 0), 512);
        Check.due("wet: ten things, or none", town.parts(0, 1, true, 1), 11);
        Check.due("dry, a tone comes or not", town.parts(0, 2, false, 1), 2);
        Check.due("it comes in four", town.parts(0, 2, false, 0), 1020);
        Check.due("asked twice it is the same", town.parts(0, 1, true, 0), 512);
        BuriedPairs each = Check.town("b 2;c 0 1 6 9");
        each.test(0, 0, 0, 0, 0, 0, 1);
        each.trouble(0, 2, 0, 0, 1, 1);
        each.trouble(0, 2, 0, 0, 2, 1);
        each.trouble(0, 2, 0, 0, 5, 1);
        Check.due("each world tells its own", each.parts(0, 0, true, 0), 1);
        Check.due("so there are eight", each.parts(0, 0, true, 1), 8);
        Check.due("dry all tell the same", each.parts(0, 0, false, 0), 8);
    }

    // METRES over the longest row tells the greatest numbers: to a break, to the house and to a touch at its end.
    private static void partsOfTheFarthestMetres() {
        BuriedPairs town = Towns.longest();
        town.trouble(0, 1, 6, 0, 0, 99);
        town.trouble(0, 2, 6, 0, 1, 99);
        town.trouble(0, 1, 5, 0, 0, 98);
        town.test(0, 1, 0, 0, 0, 0, 0);
        Check.due("wet: two breaks, a touch, a house", town.parts(0, 0, true, 1), 4);
        Check.due("wet: half of all to the nearest", town.parts(0, 0, true, 0), 4);
        Check.due("dry: two breaks, a house", town.parts(0, 0, false, 1), 3);
        town.read(0, 0, true, 4 * 693 + 2);
        Check.due("to the touch", town.fitting(0, NONE), 1);
        town.unread(0);
        town.read(0, 0, false, 4 * 693);
        Check.due("to the break, wet and dry", town.fitting(0, NONE), 2);
        Check.due("of one kind", town.parts(0, 0, true, 1), 1);
        Check.due("two of it", town.parts(0, 0, true, 0), 2);
        Check.due("so it is the next", town.next(0, true, 0, 0), 0);
    }

    // Promise 26: "NONE: .. no such ones, far below 0."
    private static void nextOfNoSuchOnes() {
        furnished("next", (town, n) -> town.next(n[0], false, n[1], n[2]), 0, 0, 99)
            .goes(0, 0, 2, 1, 0)
            .goes(1, 0, 2, 4, 2)
            .goes(2, 0, 2, MAX, 2)
            .refuses(0, 6, 99)
            .refuses(1, 3, 99);
    }

    // "NEXT from a BOX with so many metres to walk: the TEST whose BOX is no farther"
    private static void nextFarEnough() {
        Edges next = furnished("next", (town, n) -> town.next(n[0], false, n[1], n[2]), 0, 4, 24);
        next.goes(2, 24, 2, MAX, 2);
        next.takes(2, 0, 1, 9).refuses(0, 1, 8);
        next.takes(1, 0, 2, 0);
        next.takes(2, 0, 0, 0);
        next.takes(2, 0, 3, 16).refuses(0, 3, 15);
    }

    // Promise 26: "NONE: there is none, none fits"
    private static void nextWhereThereIsNone() {
        Edges.unchanged("no test", () -> Check.town(Towns.TEXT), t -> t.next(0, false, 0, MAX), NONE);
        Edges.unchanged("no way", Towns::furnished, t -> t.next(0, false, 5, MAX), NONE);
        Edges.unchanged("none near enough", Towns::furnished, t -> t.next(0, true, 4, 23), NONE);
        Edges.unchanged("none fits", Towns::unfitting, t -> t.next(0, false, 0, MAX), NONE);
        Edges.unchanged("none fits, wet", Towns::unfitting, t -> t.next(0, true, 0, MAX), NONE);
    }

    // "with the least LARGEST; of several the nearer one, then the lower number"
    private static void nextOfSeveral() {
        BuriedPairs town = Check.town("b 4;c 0 1 2 5;c 1 2 2 7;c 1 3 2 7;j 0 0 1 0;j 0 1 2 1");
        town.trouble(0, 1, 0, 0, 0, 2);
        town.trouble(0, 1, 1, 0, 0, 2);
        town.test(0, 0, 0, 1, 0, 0, 1);
        Check.due("one that parts nothing is one, too", town.next(0, false, 0, 5), 0);
        town.test(0, 0, 0, 0, 0, 1, 1);
        Check.due("three tell the same: less than four", town.next(0, false, 0, 12), 1);
        Check.due("but it is too far", town.next(0, false, 0, 11), 0);
        town.test(0, 0, 0, 0, 0, 1, 1);
        Check.due("likewise there: the lower number", town.next(0, false, 0, 99), 1);
        town.test(0, 1, 0, 0, 0, 0, 0);
        Check.due("two tell the same: less than three", town.next(0, false, 2, 99), 3);
        town.test(0, 1, 1, 0, 1, 0, 0);
        Check.due("two tell the same, and nearer", town.next(0, false, 2, 99), 4);
        Check.due("from box 1, 5 and 7 metres: the nearer one", town.next(0, false, 1, 99), 3);
        town.test(0, 1, 0, 0, 0, 0, 0);
        Check.due("as near: the lower number", town.next(0, false, 0, 99), 3);
        town.test(0, 0, 0, 1, 0, 0, 0);
        Check.due("a nearer one that parts less is not the next", town.next(0, false, 0, 99), 3);
        Check.due("nor where the better one is farther", town.next(0, false, 1, 99), 3);
        town.trouble(0, 2, 2, 0, 1, 1);
        town.test(0, 1, 2, 1, 1, 0, 0);
        Check.due("dry", town.next(0, false, 3, 0), 7);
        Check.due("wet it parts in two halves of eight", town.parts(0, 7, true, 0), 4);
        Check.due("and dry not at all", town.parts(0, 7, false, 0), 8);
        BuriedPairs worse = Check.town("b 2;c 0 1 2 5");
        worse.trouble(0, 1, 0, 0, 0, 2);
        worse.test(0, 1, 0, 0, 1, 0, 0);
        worse.test(0, 1, 0, 1, 0, 0, 0);
        Check.due("the farther one that parts them", worse.next(0, false, 0, 5), 0);
        Check.due("the nearer one that does not, if it is too far", worse.next(0, false, 0, 4), 1);
    }

    // "with the least LARGEST": three kinds of 24, 24 and 16 worlds part better than four of 32, 16, 8 and 8.
    private static void nextByTheLargestNotTheKinds() {
        BuriedPairs town = Check.town("b 3;c 0 1 1 9;c 0 2 3 9");
        town.trouble(0, 1, 0, 0, 0, 2);
        town.trouble(0, 1, 0, 0, 0, 4);
        town.trouble(0, 1, 0, 0, 0, 6);
        town.trouble(0, 0, 1, 0, 1, 0);
        town.trouble(0, 0, 1, 1, 2, 0);
        town.trouble(0, 0, 1, 0, 1, 0);
        town.test(0, 1, 0, 0, 0, 0, 0);
        town.test(0, 0, 1, 0, 0, 1, 1);
        Check.due("2 metres are told by half of the worlds", town.parts(0, 0, false, 0), 32);
        Check.due("2, 4, 6 or 9 metres", town.parts(0, 0, false, 1), 4);
        Check.due("pair 0 comes out as 0, or as 1, in 3 of 8", town.parts(0, 1, false, 0), 24);
        Check.due("as 0, 1 or 2", town.parts(0, 1, false, 1), 3);
        Check.due("the one with fewer kinds, though farther", town.next(0, false, 0, 9), 1);
        Check.due("if it is too far, the other", town.next(0, false, 0, 8), 0);
    }

    // "The BOX of a TEST: where one listens, or measures."
    private static void theBoxOfATest() {
        int[] near = {0, 1};
        int[] far = {1, 2};
        for (int cable = 0; cable < 2; cable++) {
            for (int end = 0; end < 2; end++) {
                int box = end == 0 ? near[cable] : far[cable];
                BuriedPairs tone = Check.town("b 4;c 0 1 2 5;c 1 2 2 7;c 0 3 1 1");
                tone.test(0, 0, 2, 0, 1, cable, end);
                BuriedPairs metres = Check.town("b 4;c 0 1 2 5;c 1 2 2 7;c 0 3 1 1");
                metres.test(0, 1, cable, 0, end, 2, 1);
                for (int from = 0; from < 4; from++) {
                    int due = from == box ? 0 : NONE;
                    Check.due("where one listens", tone.next(0, false, from, 0), due);
                    Check.due("where one measures", metres.next(0, false, from, 0), due);
                }
            }
        }
    }

    // Promises 19 and 22 to 26 are questions.
    private static void theQuestionsChangeNothing() {
        Edges.unchanged("tells", Towns::furnished, t -> t.tells(0, 0, ALL, true), 0);
        Edges.unchanged("fitting", Towns::furnished, t -> t.fitting(0, NONE), 4);
        Edges.unchanged("fewest", Towns::furnished, t -> t.fewest(0), 4);
        Edges.unchanged("sure", Towns::furnished, t -> t.sure(0, 1), 14);
        Edges.unchanged("parts", Towns::furnished, t -> t.parts(0, 1, true, 1), 2);
        Edges.unchanged("next", Towns::furnished, t -> t.next(0, true, 0, 0), 2);
    }
}
