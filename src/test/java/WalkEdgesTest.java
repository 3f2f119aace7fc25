import java.util.function.Supplier;

/** Part 4 of the terms, promises 27 to 31, and an object's 512 calls: one test a sentence. */
public final class WalkEdgesTest {
    private static final int NONE = BuriedPairs.NONE;
    private static final int MIN = Integer.MIN_VALUE;
    private static final int MAX = Integer.MAX_VALUE;
    private static final int ALL = 15;

    public static void main(String[] args) {
        walkOfNoSuchOnes();
        walkWithoutAWay();
        walksOfAllLengths();
        distanceOfNoSuchOnes();
        distanceBelowNought();
        distanceFromNoughtToTheEnd();
        distanceNoMoreThanSoManyMetresOff();
        distanceByMetresReadingsThatAreDry();
        distanceOfTheOnlyFault();
        distanceOfNone();
        wantOfNoSuchOnes();
        wantOfOneThatHangsNowhere();
        wantWhatAnotherOneWants();
        wantOfAnyTwo();
        wantNone();
        wantAsAllSlipsTell();
        movesOfNoSuchOnes();
        movesWhereNoCableComes();
        movesHowManyAndWhich();
        movesOfNone();
        movesToFreePairsAlone();
        movesTheLowestHouseFirst();
        movesAsideForOneThatIsNotHome();
        movesAsideForAnyHouse();
        movesNotAsideForOneAtHome();
        movesAsideOnce();
        movesAsideToTheLowestFreePair();
        movesInThatWorld();
        theMostMoves();
        countOfOthers();
        countOfNothingAndOfAll();
        theLastOf512Calls();
        theQuestionsChangeNothing();
        Check.finish("WalkEdgesTest");
    }

    private static Edges furnished(String name, Edges.Call call, int... fine) {
        return new Edges(name, Towns::furnished, call, NONE, fine);
    }

    private static long walk(BuriedPairs town, int... n) {
        return town.walk(n[0], n[1], n[2]);
    }

    private static long distance(BuriedPairs town, int... n) {
        return town.distance(n[0], n[1], n[2], n[3], n[4]);
    }

    private static long want(BuriedPairs town, int... n) {
        return town.want(n[0], n[1], n[2]) ? 1 : 0;
    }

    private static long moves(BuriedPairs town, int... n) {
        return town.moves(n[0], n[1], n[2], n[3]);
    }

    private static void moves(String name, BuriedPairs town, int world, int box, int... due) {
        Check.due(name + ": how many", town.moves(0, world, box, NONE), due.length);
        for (int i = 0; i < due.length; i++) {
            Check.due(name + ": move " + i, town.moves(0, world, box, i), due[i]);
        }
        Check.due(name + ": no more", town.moves(0, world, box, due.length), NONE);
    }

    // Promise 27: "NONE: .. no such ones."
    private static void walkOfNoSuchOnes() {
        furnished("walk", WalkEdgesTest::walk, 0, 0, 0)
            .goes(0, 0, 0, 1, 0)
            .goes(1, 0, 0, 4, 24)
            .goes(2, 0, 0, 4, 24)
            .takes(0, 0, 5, 5)
            .refuses(0, 6, 6)
            .refuses(0, -1, -1)
            .refuses(0, MIN, MIN)
            .refuses(0, MAX, MAX)
            .refuses(1, 3, 3);
    }

    // Promise 27: "NONE: no way"; "there may be no way"
    private static void walkWithoutAWay() {
        furnished("walk", WalkEdgesTest::walk, 0, 0, 0).refuses(0, 0, 5).refuses(0, 5, 0).refuses(0, 5, 4);
        BuriedPairs town = Check.town("b 8");
        for (int one = 0; one < 8; one++) {
            for (int other = 0; other < 8; other++) {
                Check.due("without cables", town.walk(0, one, other), one == other ? 0 : NONE);
            }
        }
        BuriedPairs apart = Check.town("b 6;c 0 2 1 3;c 2 4 1 3;c 1 3 1 4;c 3 5 1 4");
        Check.due("even ones", apart.walk(0, 4, 0), 6);
        Check.due("odd ones", apart.walk(0, 1, 5), 8);
        Check.due("from one to the other", apart.walk(0, 4, 5), NONE);
        Check.due("and back", apart.walk(0, 1, 4), NONE);
    }

    // "WALK from BOX to BOX: metres along CABLES"
    private static void walksOfAllLengths() {
        BuriedPairs town = Towns.longest();
        for (int one = 0; one < 8; one++) {
            for (int other = 0; other < 8; other++) {
                Check.due("in a row", town.walk(0, one, other), 99 * Math.abs(one - other));
            }
        }
        BuriedPairs tree = Check.town("b 8;c 0 1 1 1;c 0 2 1 2;c 1 3 1 4;c 1 4 1 8;c 2 5 1 16;c 2 6 1 32;c 5 7 1 64");
        Check.due("over box 1", tree.walk(0, 3, 4), 12);
        Check.due("over box 0", tree.walk(0, 3, 6), 39);
        Check.due("up one side and down the other", tree.walk(0, 7, 4), 91);
        Check.due("and back", tree.walk(0, 4, 7), 91);
        Check.due("over box 2", tree.walk(0, 6, 7), 112);
        Check.due("one metre", Check.town("b 2;c 0 1 1 1").walk(0, 1, 0), 1);
    }

    // Promise 28: "0 least, 1 greatest", "NONE: .. no such ones"
    private static void distanceOfNoSuchOnes() {
        furnished("distance", WalkEdgesTest::distance, 0, 1, 0, 0, 1)
            .goes(1, 0, 9, 3, 8)
            .goes(2, 0, 20, 3, 20)
            .goes(4, 0, 0, 1, 20)
            .refuses(0, 0, 6, 0, 1)
            .refuses(0, 3, 2, 0, 1)
            .refuses(1, 2, 0, MAX, 1);
        furnished("distance of plans", WalkEdgesTest::distance, 0, 1, 1, 99, 1).goes(0, 0, 20, 1, 3);
    }

    // Promise 28: "NONE: .. e below 0."
    private static void distanceBelowNought() {
        furnished("distance", WalkEdgesTest::distance, 0, 1, 0, 0, 1).goes(3, 0, 20, MAX, 20);
        furnished("distance, least", WalkEdgesTest::distance, 0, 1, 0, 0, 0).goes(3, 0, 0, MAX, 0);
    }

    /** Two cables in a row, of 10 and 20 metres, with a house; test 0 measures from the exchange, 1 from the house. */
    private static BuriedPairs row() {
        BuriedPairs town = Check.town("b 3;c 0 1 2 10;c 1 2 2 20;j 0 0 1 0;h 1 0 0");
        town.test(0, 1, 0, 0, 0, 0, 0);
        town.test(0, 1, 1, 0, 1, 0, 0);
        town.test(0, 0, 0, 0, 0, 0, 1);
        return town;
    }

    private static void distances(String name, BuriedPairs town, int cable, int e, int least, int greatest) {
        Check.due(name + ": least", town.distance(0, cable, 0, e, 0), least);
        Check.due(name + ": greatest", town.distance(0, cable, 0, e, 1), greatest);
    }

    // "d (0 .. L)"
    private static void distanceFromNoughtToTheEnd() {
        distances("no reading", row(), 0, 0, 0, 10);
        distances("no reading of cable 1", row(), 1, 0, 0, 20);
        BuriedPairs start = row();
        start.read(0, 0, false, 0);
        distances("at 0", start, 0, 0, 0, 0);
        BuriedPairs end = row();
        end.read(0, 0, false, 120);
        distances("at L", end, 1, 0, 20, 20);
        BuriedPairs joint = row();
        joint.read(0, 0, false, 40);
        distances("at L of the one", joint, 0, 0, 10, 10);
        distances("at 0 of the other", joint, 1, 0, 0, 0);
        BuriedPairs shortest = Check.town("b 2;c 0 1 1 1");
        distances("one metre", shortest, 0, 0, 0, 1);
        distances("the longest", Towns.longest(), 6, 0, 0, 99);
    }

    // "no more than e metres off what it would tell"
    private static void distanceNoMoreThanSoManyMetresOff() {
        BuriedPairs town = row();
        town.read(0, 0, false, 4 * 15);
        distances("none off", town, 1, 0, 5, 5);
        distances("one off", town, 1, 1, 4, 6);
        distances("five off: the start is in", town, 1, 5, 0, 10);
        distances("four off: it is not", town, 1, 4, 1, 9);
        distances("fifteen off: the end is in", town, 1, 15, 0, 20);
        distances("fourteen off: it is not", town, 1, 14, 0, 19);
        distances("in the cable before: five off", town, 0, 5, 10, 10);
        distances("four off", town, 0, 4, NONE, NONE);
        BuriedPairs more = row();
        more.read(0, 0, false, 4 * 15 + 3);
        distances("quarters are no metres", more, 1, 0, 5, 5);
        BuriedPairs most = row();
        most.read(0, 0, false, MAX);
        int metres = MAX / 4;
        distances("the largest told, just off", most, 1, metres - 30, 20, 20);
        distances("the largest told, one less", most, 1, metres - 31, NONE, NONE);
        distances("the largest told, as it may be", most, 1, MAX, 0, 20);
    }

    // "each METRES READING (not WET)"
    private static void distanceByMetresReadingsThatAreDry() {
        BuriedPairs town = row();
        town.read(0, 0, true, 4);
        town.read(0, 2, false, 7);
        distances("neither a wet one nor a tone", town, 1, 0, 0, 20);
        town.read(0, 0, false, 4 * 15);
        town.read(0, 1, false, 4 * 13);
        distances("from both ends, 5 and 7: none off", town, 1, 0, NONE, NONE);
        distances("one off", town, 1, 1, 6, 6);
        distances("two off", town, 1, 2, 5, 7);
        town.unread(0);
        distances("without the last", town, 1, 0, 5, 5);
        town.read(0, 0, true, 0);
        distances("with a wet one behind it", town, 1, 0, 5, 5);
        BuriedPairs full = row();
        for (int reading = 0; reading < 24; reading++) {
            full.read(0, 0, false, 4 * (reading < 23 ? 15 : 16));
        }
        distances("the 24th counts", full, 1, 0, NONE, NONE);
        distances("one off, all of them", full, 1, 1, 5, 6);
    }

    // "this being the only FAULT": those that were told are not, and slips are done.
    private static void distanceOfTheOnlyFault() {
        BuriedPairs town = row();
        town.trouble(0, 1, 0, 0, 0, 3);
        town.read(0, 0, false, 4 * 15);
        distances("a break told is none", town, 1, 0, 5, 5);
        town.slip(0, 0, 0, 1, 1, 0);
        town.trouble(0, 3, 0, 0, 0, 0);
        distances("a slip is done: it is measured no more", town, 1, 0, NONE, NONE);
        BuriedPairs other = row();
        other.read(0, 0, false, 4 * 30);
        Check.due("of another pair any", other.distance(0, 1, 1, 0, 0), 0);
        Check.due("to its end", other.distance(0, 1, 1, 0, 1), 20);
        Check.due("by its near end", other.distance(0, 0, 1, 0, 1), 10);
    }

    // Promise 28: "NONE: none"
    private static void distanceOfNone() {
        Supplier<BuriedPairs> none = () -> {
            BuriedPairs town = row();
            town.read(0, 0, false, 4 * 31);
            return town;
        };
        new Edges("distance", none, WalkEdgesTest::distance, NONE, 0, 1, 0, 1, 0)
            .goes(3, 1, 20, MAX, 0)
            .refuses(0, 1, 0, 0, 1)
            .refuses(0, 0, 0, 20, 0);
    }

    // Promise 29: "(NONE: none). False: .. no such ones"
    private static void wantOfNoSuchOnes() {
        new Edges("want", Towns::furnished, WalkEdgesTest::want, 0, 0, 5, 3)
            .goes(2, 2, 1, 3, 1)
            .takes(1, 0, 5, NONE)
            .refuses(0, 5, -2)
            .refuses(0, 5, MIN);
        new Edges("want of a house", Towns::furnished, WalkEdgesTest::want, 0, 0, 0, NONE)
            .goes(0, 0, 1, 1, 1)
            .goes(1, 0, 1, 5, 1)
            .takes(1, 0, 9, NONE)
            .refuses(0, 10, NONE);
        new Edges("want in a cable of two", Towns::furnished, WalkEdgesTest::want, 0, 0, 3, 0)
            .goes(2, NONE, 1, 1, 1);
        new Edges("want in a cable of six", Towns::furnished, WalkEdgesTest::want, 0, 0, 4, 0)
            .goes(2, NONE, 1, 5, 1);
    }

    // Promise 29: "False: it hangs nowhere"
    private static void wantOfOneThatHangsNowhere() {
        Edges want = new Edges("want", Towns::furnished, WalkEdgesTest::want, 0, 0, 6, 0);
        want.refuses(0, 6, 0).refuses(0, 7, NONE).refuses(0, 8, 3);
        new Edges("want", Towns::movedBySlips, WalkEdgesTest::want, 0, 0, 0, 0)
            .refuses(0, 0, 0).refuses(0, 0, NONE).takes(1, 0, 1, 0).takes(1, 0, 2, 0);
        BuriedPairs town = Check.town("b 2;c 0 1 3 9;h 0 0 1");
        Check.due("house 4 hangs nowhere", town.want(0, 4, 2), false);
        town.slip(0, 1, 0, 1, 4, 0);
        moves("now it hangs, and wants none", town, 0, 1);
        Check.due("so another may want what it was refused", town.want(0, 1, 2), true);
        Check.due("it wants the first one's pair", town.want(0, 4, 0), true);
        town.slip(0, 1, 0, 1, 5, 0);
        Check.due("put off by house 5 it hangs nowhere again", town.want(0, 4, NONE), false);
        town.slip(0, 1, 0, 1, 4, 0);
        moves("back in its place it wants what it wanted", town, 0, 1, 10, 32);
    }

    // Promise 29: "False: .. another one on that CABLE wants it."
    private static void wantWhatAnotherOneWants() {
        Edges want = new Edges("want", Towns::furnished, WalkEdgesTest::want, 0, 0, 5, 0);
        want.refuses(0, 5, 0).refuses(0, 5, 1).refuses(0, 1, 0).refuses(0, 2, 1);
        want.takes(1, 0, 1, 1).takes(1, 0, 2, 0).takes(1, 0, 4, 0).takes(1, 0, 3, 1);
        BuriedPairs town = Towns.furnished();
        Check.due("1 wants another", town.want(0, 1, 3), true);
        Check.due("so 5 may have it", town.want(0, 5, 1), true);
        Check.due("and 1 no more", town.want(0, 1, 1), false);
        Check.due("it still wants 3", town.want(0, 2, 3), false);
        Check.due("in the other plan it is free", town.want(1, 0, 1), true);
    }

    // "another one": any of the ten, and any of the six pairs.
    private static void wantOfAnyTwo() {
        for (int one = 0; one < 10; one++) {
            for (int other = 0; other < 10; other++) {
                if (one != other) {
                    BuriedPairs town = Check.town("b 2;c 0 1 6 9;h 0 0 " + one + ";h 0 1 " + other);
                    int pair = (one + other) % 6;
                    Check.due("one wants it", town.want(0, one, pair), true);
                    Check.due(other + " may not want what " + one + " wants", town.want(0, other, pair), false);
                    Check.due("but another", town.want(0, other, (pair + 1) % 6), true);
                }
            }
        }
    }

    // "NONE: none": and none may be wanted by many.
    private static void wantNone() {
        BuriedPairs town = Towns.furnished();
        Check.due("moves at first", town.moves(0, 0, 2, NONE), 3);
        Check.due("1 wants none", town.want(0, 1, NONE), true);
        Check.due("2 wants none", town.want(0, 2, NONE), true);
        Check.due("again", town.want(0, 2, NONE), true);
        Check.due("so none moves", town.moves(0, 0, 2, NONE), 0);
        Check.due("and 5 may want what they did", town.want(0, 5, 0), true);
    }

    // "the CABLE where it hangs (as the PLAN and all SLIPS tell"
    private static void wantAsAllSlipsTell() {
        BuriedPairs town = Towns.furnished();
        Check.due("house 5 hangs by a slip in cable 1, of four", town.want(0, 5, 3), true);
        town.slip(0, 1, 3, 1, 5, 0);
        Check.due("by another in cable 3, of two", town.want(0, 5, 2), false);
        Check.due("where it may want the last", town.want(0, 5, 1), true);
        Check.due("what it wanted is free for others", town.want(0, 1, 3), true);
        town.trouble(0, 3, 2, 0, 0, 0);
        Check.due("a fault does not count", town.want(0, 5, 3), false);
        Check.due("3 was put away by it", town.want(0, 3, 0), false);
    }

    // Promise 30: "NONE: .. no such ones."
    private static void movesOfNoSuchOnes() {
        furnished("moves", WalkEdgesTest::moves, 0, 0, 2, NONE)
            .goes(0, 0, 3, 1, 0)
            .goes(1, 0, 3, ALL, 2)
            .goes(2, 1, 0, 4, 0)
            .refuses(0, 0, 6, NONE)
            .refuses(1, 2, 2, NONE)
            .refuses(1, 0, 3, NONE);
    }

    // Promise 30: "NONE: .. no CABLE comes there"
    private static void movesWhereNoCableComes() {
        furnished("moves", WalkEdgesTest::moves, 0, 0, 2, NONE)
            .refuses(0, 0, 0, NONE)
            .refuses(0, 0, 5, NONE)
            .refuses(0, 0, 0, 0)
            .refuses(0, 0, 5, 0);
    }

    // Promise 30: "how many (i NONE), the i-th as 8 times the HOUSE and the PAIR. NONE: without"
    private static void movesHowManyAndWhich() {
        furnished("moves", WalkEdgesTest::moves, 0, 0, 2, NONE)
            .goes(3, NONE, 3, 2, 9)
            .takes(11, 0, 0, 2, 0)
            .takes(16, 0, 0, 2, 1);
        BuriedPairs last = Check.town("b 2;c 0 1 6 1;h 0 0 9;h 0 1 0");
        last.want(0, 9, 5);
        last.want(0, 0, 0);
        moves("the last house and pair, the first house and pair", last, 0, 1, 77, 0);
    }

    // Promise 30 where nothing moves.
    private static void movesOfNone() {
        moves("no house", Check.town("b 2;c 0 1 2 1"), 0, 1);
        moves("none wants", Check.town("b 2;c 0 1 2 1;h 0 0 0"), 0, 1);
        BuriedPairs home = Check.town("b 2;c 0 1 2 1;h 0 0 0");
        home.want(0, 0, 0);
        moves("it is there", home, 0, 1);
        BuriedPairs elsewhere = Towns.furnished();
        elsewhere.want(0, 3, 0);
        moves("the pair it wants has a house that wants none", elsewhere, 0, 4);
    }

    // "a FREE PAIR: one at which none hangs then, without a JOINT, to which a TONE from some PAIR of the EXCHANGE comes"
    private static void movesToFreePairsAlone() {
        BuriedPairs town = Check.town("b 3;c 0 1 6 5;c 1 2 2 5;j 0 1 1 0;h 0 0 3;h 0 2 4;h 1 0 5");
        town.trouble(0, 1, 0, 3, 0, 0);
        town.trouble(0, 1, 0, 3, 0, 5);
        town.trouble(0, 2, 0, 3, 4, 5);
        town.want(0, 3, 1);
        moves("a joint is there", town, 0, 1);
        town.want(0, 3, 2);
        moves("one hangs there that wants none", town, 0, 1);
        town.want(0, 4, 5);
        moves("one hangs there, then no more", town, 0, 1, 37, 26);
        town.want(0, 4, NONE);
        town.want(0, 3, 3);
        moves("free", town, 0, 1, 27);
        moves("cut at 0", town, 1, 1);
        moves("cut at L", town, 2, 1);
        moves("cut, and not wet", town, 6, 1);
        town.want(0, 5, 1);
        moves("none comes to pair 1 of cable 1", town, 0, 2);
        Check.due("it stays where it hangs", town.house(0, 5), 8);
    }

    // "Each time the lowest HOUSE that is not on the PAIR it wants, while that is FREE, goes there"
    private static void movesTheLowestHouseFirst() {
        BuriedPairs town = Check.town("b 2;c 0 1 6 5;h 0 0 9;h 0 1 5;h 0 2 0");
        town.want(0, 9, 3);
        town.want(0, 5, 4);
        town.want(0, 0, 5);
        moves("by their numbers", town, 0, 1, 5, 44, 75);
        town.want(0, 0, 1);
        moves("5 makes room for 0, then 0 is the lowest", town, 0, 1, 44, 1, 75);
        town.want(0, 5, 0);
        moves("9 makes room for 5, and 5 for 0", town, 0, 1, 75, 40, 1);
    }

    // "the lowest of those not on the PAIR they want, where another HOUSE hangs that wants one, too, and is not on it"
    private static void movesAsideForOneThatIsNotHome() {
        BuriedPairs town = Check.town("b 2;c 0 1 4 5;h 0 0 7;h 0 1 4;h 0 2 9");
        town.want(0, 7, 1);
        moves("the other wants none", town, 0, 1);
        town.want(0, 4, 0);
        moves("the other wants, too: the lower of both goes", town, 0, 1, 35, 57, 32);
        town.want(0, 4, NONE);
        town.want(0, 7, NONE);
        town.want(0, 4, 1);
        town.want(0, 9, NONE);
        moves("the other is home", town, 0, 1);
        BuriedPairs home = Check.town("b 2;c 0 1 4 5;h 0 0 7;h 0 1 4");
        home.want(0, 4, 1);
        Check.due("7 may not want where 4 is home and wants it", home.want(0, 7, 1), false);
        moves("so it stays", home, 0, 1);
    }

    // "where another HOUSE hangs": house 0 and house 9, too, and none of another cable.
    private static void movesAsideForAnyHouse() {
        BuriedPairs first = Check.town("b 2;c 0 1 4 5;h 0 0 0;h 0 1 1");
        first.trouble(0, 1, 0, 3, 0, 0);
        first.want(0, 0, 3);
        first.want(0, 1, 0);
        moves("1 goes aside for 0, which cannot go", first, 1, 1, 10);
        BuriedPairs last = Check.town("b 2;c 0 1 4 5;h 0 0 9;h 0 1 1");
        last.trouble(0, 1, 0, 3, 0, 0);
        last.want(0, 9, 3);
        last.want(0, 1, 0);
        moves("1 goes aside for 9, which cannot go", last, 1, 1, 10);
        BuriedPairs apart = Check.town("b 3;c 0 1 4 5;c 0 2 4 5;h 0 0 0;h 0 1 3;h 1 1 4;h 1 2 5");
        apart.want(0, 0, 1);
        apart.want(0, 4, 2);
        apart.want(0, 5, 1);
        moves("3 wants none: 0 stays", apart, 0, 1);
        moves("0 of the other cable does not move here, nor 3", apart, 0, 2, 32, 41, 34);
    }

    // "and is not on it": by a slip two houses of one cable want one pair, and one of them is there.
    private static void movesNotAsideForOneAtHome() {
        BuriedPairs town = Check.town("b 3;c 0 1 4 9;c 0 2 4 9;h 1 0 1;h 0 1 2");
        Check.due("house 1 wants pair 1 of its cable", town.want(0, 1, 1), true);
        Check.due("house 2 wants pair 1 of another, where it hangs", town.want(0, 2, 1), true);
        town.slip(0, 1, 0, 0, 1, 0);
        town.trouble(0, 3, 0, 0, 0, 0);
        moves("house 1 came to pair 0 beside it: 2 is home, 1 stays", town, 0, 1);
        moves("the slip was not done: 1 goes home on its own cable", town, 1, 2, 9);
        town.want(0, 2, 3);
        moves("2 goes, and 1 comes home behind it", town, 0, 1, 19, 9);
    }

    // "and that have not gone so yet"
    private static void movesAsideOnce() {
        BuriedPairs town = Check.town("b 2;c 0 1 5 5;h 0 0 0;h 0 1 1");
        town.trouble(0, 1, 0, 0, 0, 0);
        town.want(0, 0, 1);
        town.want(0, 1, 0);
        moves("0 goes aside; its old pair is cut; 1 hangs alone there", town, 1, 1, 2);
        BuriedPairs both = Check.town("b 2;c 0 1 6 5;h 0 0 0;h 0 1 1;h 0 2 2");
        both.trouble(0, 1, 0, 5, 0, 0);
        both.want(0, 0, 1);
        both.want(0, 1, 2);
        both.want(0, 2, 5);
        moves("0 and 1 go aside once each, and 0 home; 1 waits for 2, which cannot go", both, 1, 1, 3, 8, 1);
    }

    // "goes to the lowest FREE PAIR"
    private static void movesAsideToTheLowestFreePair() {
        BuriedPairs town = Check.town("b 2;c 0 1 6 5;h 0 1 0;h 0 2 1");
        town.trouble(0, 1, 0, 0, 0, 0);
        town.trouble(0, 1, 0, 3, 0, 0);
        town.trouble(0, 1, 0, 4, 0, 0);
        town.trouble(0, 1, 0, 5, 0, 0);
        town.want(0, 0, 2);
        town.want(0, 1, 1);
        moves("0", town, 0, 1, 0, 9, 2);
        moves("3", town, 1, 1, 3, 9, 2);
        moves("4", town, 3, 1, 4, 9, 2);
        moves("5", town, 7, 1, 5, 9, 2);
        moves("none", town, 15, 1);
    }

    // "by a WORLD (not WET), of HOUSES that hang at the CABLE that comes there in that WORLD"
    private static void movesInThatWorld() {
        BuriedPairs town = Check.town("b 3;c 0 1 3 5;c 0 2 3 5;h 0 0 1;h 1 0 2");
        town.slip(0, 1, 1, 1, 1, 0);
        town.trouble(0, 3, 0, 0, 0, 0);
        town.want(0, 1, 2);
        moves("by the slip it hangs in box 2", town, 0, 2, 10);
        moves("and not in box 1", town, 0, 1);
        moves("undone, in box 1", town, 1, 1, 10);
        moves("and not in box 2", town, 1, 2);
        BuriedPairs gone = Towns.movedBySlips();
        gone.want(0, 2, 0);
        gone.want(0, 1, 1);
        moves("both hang, no pair is free", gone, 0, 1);
        moves("1 was never hung: 0 hangs there", gone, 1, 1);
        moves("2 was never hung: 1 goes to its pair", gone, 2, 1, 9);
    }

    // Five houses in a ring on six pairs, and pairs of them: each goes twice at most.
    private static void theMostMoves() {
        BuriedPairs ring = Check.town("b 2;c 0 1 6 5;h 0 0 5;h 0 1 6;h 0 2 7;h 0 3 8;h 0 4 9");
        for (int house = 5; house <= 9; house++) {
            ring.want(0, house, (house - 4) % 5);
        }
        moves("a ring of five", ring, 0, 1, 45, 72, 68, 59, 50, 41);
        BuriedPairs two = Check.town("b 2;c 0 1 5 5;h 0 0 5;h 0 1 6;h 0 2 7;h 0 3 8");
        for (int house = 5; house <= 8; house++) {
            two.want(0, house, house - 5 ^ 1);
        }
        moves("two of two", two, 0, 1, 44, 48, 41, 60, 66, 59);
        BuriedPairs full = Check.town("b 2;c 0 1 6 5;h 0 0 0;h 0 1 1;h 0 2 2;h 0 3 3;h 0 4 4;h 0 5 5");
        for (int house = 0; house < 6; house++) {
            full.want(0, house, 5 - house);
        }
        moves("no pair is free", full, 0, 1);
    }

    // Promise 31: "NONE for others."
    private static void countOfOthers() {
        furnished("count", (town, n) -> town.count(n[0]), 0).goes(0, 0, 2, 6, 2);
        new Edges("count of a new one", Towns::fresh, (town, n) -> town.count(n[0]), NONE, 0).goes(0, 0, 0, 6, 0);
    }

    // Promise 31: "(0 without one)", and what the fullest has.
    private static void countOfNothingAndOfAll() {
        int[] due = {2, 13, 6, 4, 2, 3, 2};
        int[] most = {6, 13, 8, 7, 6, 12, 24};
        for (int what = 0; what <= 6; what++) {
            Check.due("nothing: count " + what, Towns.fresh().count(what), 0);
            Check.due("something: count " + what, Towns.furnished().count(what), due[what]);
            Check.due("all: count " + what, Towns.full().count(what), most[what]);
        }
        BuriedPairs bytes = new BuriedPairs();
        Check.feed(bytes, "b 2;c 0 1 1 1");
        int[] alone = {0, 13, 0, 0, 0, 0, 0};
        for (int what = 0; what <= 6; what++) {
            Check.due("bytes alone: count " + what, bytes.count(what), alone[what]);
        }
        BuriedPairs second = Check.town("b 2");
        Check.plan(second, Towns.SECOND);
        second.slip(1, 1, 0, 0, 0, 0);
        second.test(1, 1, 0, 0, 0, 0, 0);
        second.read(1, 0, false, 0);
        int[] first = {2, 0, 2, 0, 0, 0, 0};
        for (int what = 0; what <= 6; what++) {
            Check.due("of plan 0 alone: count " + what, second.count(what), first[what]);
        }
    }

    // "An object is used for at most 512 calls after it has been made"
    private static void theLastOf512Calls() {
        BuriedPairs town = new BuriedPairs();
        town.feed(0x6220323B, 0x63203020, 0x31203220, 0x393B6820, 0x30203020);
        town.feed('4', 0, 0, 0, 0);
        Check.due("the third call", town.plan(), 0);
        for (int call = 4; call < 511; call++) {
            Check.due("call " + call, town.metres(0, 0, false, 0, 0, 0), 37);
        }
        Check.due("call 511", town.trouble(0, 1, 0, 0, 0, 4), 0);
        Check.due("call 512", town.metres(0, 1, false, 0, 0, 0), 16);
    }

    // Promises 27, 28, 30 and 31 are questions.
    private static void theQuestionsChangeNothing() {
        Edges.unchanged("walk", Towns::furnished, t -> t.walk(0, 0, 4), 24);
        Edges.unchanged("distance", Towns::furnished, t -> t.distance(0, 1, 1, 0, 1), 20);
        Edges.unchanged("moves", Towns::furnished, t -> t.moves(0, 0, 2, NONE), 3);
        Edges.unchanged("a move", Towns::furnished, t -> t.moves(0, 0, 2, 2), 9);
        Edges.unchanged("count", Towns::furnished, t -> t.count(1), 13);
    }
}
