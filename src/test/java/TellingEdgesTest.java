import java.util.NoSuchElementException;
import java.util.function.Supplier;

/** Promises 6 to 11: what plans, slips and faults take and refuse, one test a sentence. */
public final class TellingEdgesTest {
    private static final int NONE = BuriedPairs.NONE;
    private static final int MIN = Integer.MIN_VALUE;
    private static final int MAX = Integer.MAX_VALUE;

    public static void main(String[] args) {
        plansThatAreAndAreNot();
        theLastOfSixPlans();
        cableThrowsForNoSuchOnes();
        jointOfNoSuchOnes();
        jointToNone();
        jointsWithAllSlipsDone();
        houseOfNoSuchOnes();
        houseNowhere();
        housesWithAllSlipsDone();
        slipOfAJoint();
        slipOfAHouse();
        slipOfNoSuchKind();
        sixSlips();
        slipsComeBehindTheTextInTheirOrder();
        troubleOfNoSuchKind();
        aSwap();
        aBreakFromNoughtToTheEnd();
        aTouchFromNoughtToTheEnd();
        anUndoneSlip();
        alike();
        tenFaults();
        howManyFaults();
        theQuestionsChangeNothing();
        Check.finish("TellingEdgesTest");
    }

    private static Edges furnished(String name, Edges.Call call, int... fine) {
        return new Edges(name, Towns::furnished, call, NONE, fine);
    }

    private static long cable(BuriedPairs town, int... n) {
        try {
            return town.cable(n[0], n[1], n[2]);
        } catch (NoSuchElementException e) {
            return Edges.THROWS;
        }
    }

    private static long slip(BuriedPairs town, int... n) {
        return town.slip(n[0], n[1], n[2], n[3], n[4], n[5]);
    }

    private static long trouble(BuriedPairs town, int... n) {
        return town.trouble(n[0], n[1], n[2], n[3], n[4], n[5]);
    }

    // "no such ones": of every call, the number of the plan, with two plans.
    private static void plansThatAreAndAreNot() {
        PlanNumbers.allTake(Towns::furnished, 0);
        PlanNumbers.allTake(Towns::furnished, 1);
        for (int plan : new int[] {MIN, -1, 2, MAX}) {
            PlanNumbers.allRefuse(Towns::furnished, plan);
        }
    }

    // "PLANS (6 at most)": of every call the last of six, and the one behind it.
    private static void theLastOfSixPlans() {
        Supplier<BuriedPairs> six = () -> {
            BuriedPairs town = new BuriedPairs();
            for (int plan = 0; plan < 6; plan++) {
                Check.plan(town, plan == 5 ? Towns.SECOND : "b 2");
            }
            town.test(5, 1, 0, 0, 0, 0, 0);
            town.read(5, 0, false, 33);
            return town;
        };
        PlanNumbers.allTake(six, 5);
        PlanNumbers.allRefuse(six, 6);
        Edges.unchanged("a plan in between has no cables", six, t -> cable(t, 4, 0, 0), Edges.THROWS);
    }

    // Promise 6: "NoSuchElementException: no such ones."
    private static void cableThrowsForNoSuchOnes() {
        new Edges("cable", Towns::furnished, TellingEdgesTest::cable, Edges.THROWS, 0, 2, 3)
            .goes(0, 0, 7, 0, 7)
            .goes(1, 0, 9, 3, 8)
            .goes(2, 0, 1, 3, 7)
            .refuses(1, 2, 3)
            .refuses(2, 0, 0);
        new Edges("cable of plan 1", Towns::furnished, TellingEdgesTest::cable, Edges.THROWS, 1, 1, 3)
            .goes(0, 0, 20, 1, 3)
            .goes(1, 0, 5, 1, 3);
        new Edges("cable of none", () -> Check.town("b 8"), TellingEdgesTest::cable, Edges.THROWS, 0, 0, 0)
            .refuses(0, 0, 0)
            .refuses(0, -1, 0);
        new Edges("cable of seven", Towns::full, TellingEdgesTest::cable, Edges.THROWS, 0, 0, 1)
            .goes(1, 0, 1, 6, 7);
    }

    // Promise 7: "NONE: .. no such ones."
    private static void jointOfNoSuchOnes() {
        Edges.Call joint = (town, n) -> town.joint(n[0], n[1], n[2]);
        furnished("joint", joint, 0, 0, 0)
            .goes(0, 0, 8, 1, 9)
            .goes(1, 0, 8, 0, 8)
            .goes(2, 0, 8, 3, 10)
            .takes(11, 0, 0, 5)
            .refuses(0, 0, 6)
            .refuses(0, 0, 8)
            .refuses(0, 1, -8)
            .refuses(0, 0, MAX)
            .takes(25, 0, 2, 0)
            .refuses(0, 4, 0)
            .refuses(0, MAX, 0);
    }

    // Promise 7: "NONE: to none"
    private static void jointToNone() {
        BuriedPairs town = Towns.furnished();
        Check.due("a spare pair", town.joint(0, 0, 4), NONE);
        Check.due("where a house hangs", town.joint(0, 1, 0), NONE);
        Check.due("in the last cable", town.joint(0, 3, 1), NONE);
        Check.due("beside one that is joined", town.joint(1, 0, 1), NONE);
    }

    // Promise 7: "with all SLIPS done"
    private static void jointsWithAllSlipsDone() {
        BuriedPairs town = Towns.furnished();
        Check.due("joined by a slip, though a fault calls it undone", town.joint(0, 0, 3), 10);
        town.slip(0, 0, 0, 4, 1, 2);
        Check.due("by a later one it is no more", town.joint(0, 0, 3), NONE);
        Check.due("but this", town.joint(0, 0, 4), 10);
        town.slip(0, 0, 0, 4, 2, 0);
        Check.due("and by a later one that", town.joint(0, 0, 4), 16);
        Check.due("which the text's was", town.joint(0, 0, 2), NONE);
    }

    // Promise 8: "NONE: .. no such ones."
    private static void houseOfNoSuchOnes() {
        furnished("house", (town, n) -> town.house(n[0], n[1]), 0, 0)
            .goes(0, 0, 17, 1, 9)
            .goes(1, 0, 17, 9, 24);
    }

    // Promise 8: "NONE: nowhere"
    private static void houseNowhere() {
        BuriedPairs town = Towns.furnished();
        for (int house = 6; house <= 8; house++) {
            Check.due("told by none", town.house(0, house), NONE);
        }
        for (int house = 0; house <= 9; house++) {
            Check.due("of no cables", Check.town("b 2").house(0, house), NONE);
        }
        town.slip(0, 1, 1, 0, 6, 0);
        Check.due("another took its place", town.house(0, 1), NONE);
    }

    // Promise 8: "with all SLIPS done"
    private static void housesWithAllSlipsDone() {
        BuriedPairs town = Towns.furnished();
        Check.due("hung by a slip", town.house(0, 5), 10);
        town.slip(0, 1, 0, 4, 5, 0);
        town.trouble(0, 3, 2, 0, 0, 0);
        Check.due("and by a later one, though a fault calls it undone", town.house(0, 5), 4);
    }

    // Promise 9: "kind 0 a JOINT (of PAIR p of CABLE x and PAIR q of CABLE y)", "NONE: no such ones"
    private static void slipOfAJoint() {
        furnished("slip of a joint", TellingEdgesTest::slip, 0, 0, 0, 0, 1, 0)
            .goes(0, 0, 2, 1, 0)
            .goes(2, 0, 2, 0, 2)
            .goes(3, 0, 2, 5, 2)
            .goes(4, 1, 2, 2, 2)
            .goes(5, 0, 2, 3, 2)
            .takes(2, 0, 0, 2, 1, 3, 1)
            .refuses(0, 0, 2, 2, 3, 0)
            .refuses(0, 0, 2, 0, 3, 2)
            .refuses(0, 0, 1, 0, 2, 0)
            .refuses(0, 0, 1, 0, 0, 0)
            .refuses(0, 0, 2, 0, 2, 1)
            .refuses(0, 0, 4, 0, 1, 0)
            .refuses(0, 0, 0, 0, 4, 0)
            .refuses(0, 0, 3, 0, 4, 0)
            .refuses(0, 0, MIN, MIN, MIN, MIN)
            .refuses(0, 0, MAX, MAX, MAX, MAX);
    }

    // Promise 9: "1 a HOUSE (y; q is not asked)", "NONE: no such ones"
    private static void slipOfAHouse() {
        furnished("slip of a house", TellingEdgesTest::slip, 0, 1, 0, 0, 7, 0)
            .goes(0, 0, 2, 1, 0)
            .goes(2, 0, 2, 3, 2)
            .goes(3, 0, 2, 5, 2)
            .goes(4, 0, 2, 9, 2)
            .isNotAsked(5)
            .refuses(0, 1, 3, 2, 7, 0)
            .refuses(0, 1, 1, 4, 7, 0);
        BuriedPairs town = Towns.furnished();
        town.slip(0, 1, 3, 1, 9, MIN);
        Check.due("it hangs whatever q is", town.house(0, 9), 25);
    }

    // Promise 9: "kind 0 .., 1"
    private static void slipOfNoSuchKind() {
        furnished("slip of a kind", TellingEdgesTest::slip, 0, 0, 0, 0, 1, 0).goes(1, 0, 2, 1, 2);
    }

    // "SLIPS (6 at most of a PLAN)", promise 9: "NONE: .. there are six."
    private static void sixSlips() {
        BuriedPairs town = Towns.furnished();
        for (int slip = 2; slip < 6; slip++) {
            Check.due("its number", town.slip(0, slip % 2, 0, 0, 1, 0), slip);
        }
        Check.due("six", town.count(4), 6);
        Check.due("another plan takes its own", town.slip(1, 1, 0, 0, 0, 0), 0);
        Edges.unchanged("a seventh, a joint", Towns::full, t -> t.slip(0, 0, 0, 4, 1, 3), NONE);
        Edges.unchanged("a seventh, a house", Towns::full, t -> t.slip(0, 1, 0, 0, 3, 0), NONE);
        Edges.unchanged("a seventh that is none", Towns::full, t -> t.slip(0, 2, 0, 0, 3, 0), NONE);
        theSixSlipsStand();
    }

    /** A seventh takes no slip's place: seen where another of them was never done, so that all are gone through. */
    private static void theSixSlipsStand() {
        BuriedPairs town = Check.town("b 2;c 0 1 6 5");
        for (int slip = 0; slip < 6; slip++) {
            Check.due("house " + slip, town.slip(0, 1, 0, slip, slip, 0), slip);
            Check.due("or not", town.trouble(0, 3, slip, 0, 0, 0), slip);
        }
        Check.due("a seventh", town.slip(0, 1, 0, 0, 9, 0), NONE);
        for (int undone = 0; undone < 6; undone++) {
            for (int house = 0; house < 6; house++) {
                Check.due("house " + house + " without slip " + undone, town.fed(0, 1 << undone, false, house),
                    house == undone ? NONE : 1 << house);
            }
            Check.due("house 9 hangs nowhere", town.fed(0, 1 << undone, false, 9), NONE);
        }
    }

    // "in their order they come behind the PLAN's TEXT"
    private static void slipsComeBehindTheTextInTheirOrder() {
        BuriedPairs town = Check.town("b 3;c 0 1 3 5;c 1 2 3 5;j 0 0 1 0;h 1 0 1");
        town.slip(0, 0, 0, 1, 1, 0);
        town.slip(0, 0, 0, 2, 1, 0);
        town.slip(0, 0, 0, 0, 1, 0);
        Check.due("the last one counts", town.joint(0, 0, 0), 8);
        Check.due("not the first", town.joint(0, 0, 1), NONE);
        Check.due("nor the second", town.joint(0, 0, 2), NONE);
        town.trouble(0, 3, 2, 0, 0, 0);
        town.trouble(0, 3, 1, 0, 0, 0);
        town.trouble(0, 3, 0, 0, 0, 0);
        int[] feeds = {1, 4, 1, 2, 1, 4, 1, 1};
        for (int world = 0; world < 8; world++) {
            Check.due("house 1 in world " + world, town.fed(0, world, false, 1), feeds[world]);
        }
    }

    // Promise 10: "kind 0 .. 3", "NONE: no such ones"
    private static void troubleOfNoSuchKind() {
        furnished("trouble of a kind", TellingEdgesTest::trouble, 0, 0, 0, 0, 1, 0)
            .goes(1, 0, 4, 3, 4)
            .takes(4, 0, 1, 0, 0, 1, 0)
            .takes(4, 0, 2, 0, 0, 1, 0)
            .goes(0, 0, 4, 1, 1);
    }

    // Promise 10: "of 0: x, p, q"
    private static void aSwap() {
        furnished("swap", TellingEdgesTest::trouble, 0, 0, 1, 1, 2, 0)
            .goes(2, 0, 4, 1, 4)
            .isNotAsked(5)
            .takes(4, 0, 0, 3, 0, 1, 0)
            .refuses(0, 0, 4, 0, 1, 0)
            .refuses(0, 0, 2, 0, 2, 0)
            .refuses(0, 0, 2, 2, 0, 0);
        furnished("swap of the first", TellingEdgesTest::trouble, 0, 0, 0, 3, 2, 0)
            .goes(3, 0, 4, 5, 4);
        furnished("swap with the last", TellingEdgesTest::trouble, 0, 0, 0, 3, 2, 0)
            .goes(4, 0, 4, 5, 4);
    }

    // Promise 10: "of 1: x, p, d"; "cut d metres from there (0 .. L)"
    private static void aBreakFromNoughtToTheEnd() {
        furnished("break", TellingEdgesTest::trouble, 0, 1, 0, 0, 0, 0)
            .goes(2, 0, 4, 3, 4)
            .goes(3, 0, 4, 5, 4)
            .isNotAsked(4)
            .goes(5, 0, 4, 9, 4);
        furnished("break in cable 1", TellingEdgesTest::trouble, 0, 1, 1, 3, 3, 0)
            .goes(3, 0, 4, 3, 4)
            .goes(5, 0, 4, 20, 4);
        Supplier<BuriedPairs> one = () -> Check.town("b 3;c 0 1 1 1;c 0 2 1 99");
        new Edges("break in one metre", one, TellingEdgesTest::trouble, NONE, 0, 1, 0, 0, 0, 0).goes(5, 0, 0, 1, 0);
        new Edges("break in 99", one, TellingEdgesTest::trouble, NONE, 0, 1, 1, 0, 0, 0).goes(5, 0, 0, 99, 0);
    }

    // Promise 10: "of 2: x, p, q, d"; "touch d metres from there"
    private static void aTouchFromNoughtToTheEnd() {
        furnished("touch", TellingEdgesTest::trouble, 0, 2, 2, 0, 1, 0)
            .goes(2, 0, 4, 3, 4)
            .goes(5, 0, 4, 7, 4)
            .goes(3, 0, 4, 0, 4)
            .goes(4, 1, 4, 1, 4)
            .refuses(0, 2, 2, 2, 0, 0)
            .refuses(0, 2, 2, 0, 2, 0);
        furnished("touch of the first", TellingEdgesTest::trouble, 0, 2, 0, 3, 2, 9).goes(3, 0, 4, 5, 4);
        furnished("touch with the last", TellingEdgesTest::trouble, 0, 2, 0, 3, 2, 9).goes(4, 0, 4, 5, 4);
    }

    // Promise 10: "of 3: x the SLIP (others are not asked)"
    private static void anUndoneSlip() {
        furnished("undone", TellingEdgesTest::trouble, 0, 3, 0, 0, 0, 0)
            .goes(2, 0, 4, 1, 4)
            .isNotAsked(3)
            .isNotAsked(4)
            .isNotAsked(5)
            .refuses(1, 3, 0, 0, 0, 0);
        new Edges("undone of six", Towns::sixSlips, TellingEdgesTest::trouble, NONE, 0, 3, 0, 0, 0, 0)
            .goes(2, 0, 0, 5, 0);
    }

    // Promise 10: "NONE: .. alike"
    private static void alike() {
        for (int pair = 0; pair < 6; pair++) {
            int one = pair;
            Edges.unchanged("a swap with itself", Towns::furnished, t -> t.trouble(0, 0, 0, one, one, 0), NONE);
            Edges.unchanged("a touch with itself", Towns::furnished, t -> t.trouble(0, 2, 0, one, one, 0), NONE);
            Check.due("a break does not ask", Towns.furnished().trouble(0, 1, 0, one, one, 0), 4);
        }
        Check.due("nor does a slip", Towns.furnished().trouble(0, 3, 1, 1, 1, 1), 4);
    }

    // "FAULTS (10 at most of a PLAN)", promise 10: "NONE: .. there are ten."
    private static void tenFaults() {
        BuriedPairs town = Towns.furnished();
        for (int fault = 4; fault < 10; fault++) {
            Check.due("its number", town.trouble(0, fault % 4, 0, 0, 1, 0), fault);
            Check.due("so many", town.troubles(0), fault + 1);
        }
        Check.due("another plan takes its own", town.trouble(1, 1, 0, 0, 0, 0), 1);
        for (int kind = 0; kind < 4; kind++) {
            int one = kind;
            Edges.unchanged("an eleventh of kind " + kind, Towns::full, t -> t.trouble(0, one, 0, 0, 1, 0), NONE);
        }
        Edges.unchanged("an eleventh that is none", Towns::full, t -> t.trouble(0, 4, 0, 0, 1, 0), NONE);
    }

    // Promise 11: "How many FAULTS of a PLAN. NONE: no such one."
    private static void howManyFaults() {
        Check.due("none", Check.town("b 2").troubles(0), 0);
        Check.due("ten", Towns.full().troubles(0), 10);
        furnished("troubles", (town, n) -> town.troubles(n[0]), 0).goes(0, 0, 4, 1, 1);
    }

    // What asks tells nothing: promises 6, 7, 8 and 11 on what they take.
    private static void theQuestionsChangeNothing() {
        Edges.unchanged("cable", Towns::furnished, t -> t.cable(0, 0, 2), 6);
        Edges.unchanged("joint", Towns::furnished, t -> t.joint(0, 0, 0), 8);
        Edges.unchanged("house", Towns::furnished, t -> t.house(0, 1), 8);
        Edges.unchanged("troubles", Towns::furnished, t -> t.troubles(0), 4);
    }
}
