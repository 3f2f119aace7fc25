/** The promises one by one: ordinary inputs, the edges that the document names, and wrong inputs. */
public final class PromisesTest {
    private static final int NONE = BuriedPairs.NONE;
    private static final int MIN = Integer.MIN_VALUE;
    private static final int MAX = Integer.MAX_VALUE;

    /** Three cables in a row, of 10, 20 and 30 metres, with a branch of 7 from box 1, and a lone pair of boxes. */
    private static final String ROW =
        "b 7;c 0 1 4 10;c 1 2 3 20;c 2 3 2 30;c 1 4 2 7;c 5 6 1 9"
            + ";j 0 0 1 0;j 0 1 1 1;j 1 0 2 0;j 1 1 2 1;j 0 2 3 0;h 2 0 1;h 2 1 2;h 3 0 3";

    public static void main(String[] args) {
        nothingIsTold();
        cablesAreTold();
        joints();
        houses();
        slips();
        slipsThatAreRefused();
        troubles();
        troublesThatAreRefused();
        swaps();
        breaks();
        touches();
        undoneSlips();
        heardIsRefused();
        metresAlongWires();
        metresToBreaks();
        metresToTouches();
        metresIsRefused();
        fedByTheExchange();
        served();
        neighbours();
        spares();
        testsAndTells();
        testsThatAreRefused();
        readings();
        fitting();
        fewest();
        sureAndMay();
        parts();
        next();
        walks();
        distances();
        wants();
        wantsAcrossSlips();
        moves();
        movesAside();
        movesInWorlds();
        movesThatEnd();
        counts();
        plansApart();
        Check.finish("PromisesTest");
    }

    // Promise 1: "Nothing is told."
    private static void nothingIsTold() {
        BuriedPairs town = new BuriedPairs();
        for (int what = 0; what <= 6; what++) {
            Check.due("count of a new one", town.count(what), 0);
        }
        Check.due("fault", town.fault(), 0);
        Check.due("plan", town.plan(), NONE);
        Check.refusesCable(town, 0, 0, 0);
        Check.due("joint", town.joint(0, 0, 0), NONE);
        Check.due("house", town.house(0, 0), NONE);
        Check.due("slip", town.slip(0, 1, 0, 0, 0, 0), NONE);
        Check.due("trouble", town.trouble(0, 1, 0, 0, 0, 0), NONE);
        Check.due("troubles", town.troubles(0), NONE);
        Check.due("heard", town.heard(0, 0, false, 0, 0, 0, 0, 0), NONE);
        Check.due("metres", town.metres(0, 0, false, 0, 0, 0), NONE);
        Check.due("fed", town.fed(0, 0, false, 0), NONE);
        Check.due("served", town.served(0, 0, false), NONE);
        Check.due("neighbours", town.neighbours(0, 0, false, 0), NONE);
        Check.due("spare", town.spare(0, 0, 1), NONE);
        Check.due("test", town.test(0, 1, 0, 0, 0, 0, 0), NONE);
        Check.due("tells", town.tells(0, 0, 0, false), NONE);
        Check.due("read", town.read(0, 0, false, 0), NONE);
        Check.due("unread", town.unread(0), NONE);
        Check.due("fitting", town.fitting(0, NONE), NONE);
        Check.due("fewest", town.fewest(0), NONE);
        Check.due("sure", town.sure(0, 0), NONE);
        Check.due("parts", town.parts(0, 0, false, 0), NONE);
        Check.due("next", town.next(0, false, 0, 9), NONE);
        Check.due("walk", town.walk(0, 0, 0), NONE);
        Check.due("distance", town.distance(0, 0, 0, 0, 0), NONE);
        Check.due("want", town.want(0, 0, 0), false);
        Check.due("moves", town.moves(0, 0, 1, NONE), NONE);
    }

    // "c A B K L (a CABLE from BOX A to BOX B, A below B, none coming to B so far; K PAIRS, 1 .. 6, numbered 0 ..; L
    // metres, 1 .. 99; CABLES are numbered as told)"
    // Promise 6: "Of a CABLE: 0 A, 1 B, 2 PAIRS, 3 metres. NoSuchElementException: no such ones."
    private static void cablesAreTold() {
        BuriedPairs town = Check.town(ROW);
        int[][] due = {{0, 1, 4, 10}, {1, 2, 3, 20}, {2, 3, 2, 30}, {1, 4, 2, 7}, {5, 6, 1, 9}};
        for (int cable = 0; cable < due.length; cable++) {
            for (int what = 0; what < 4; what++) {
                Check.due("cable " + cable + " " + what, town.cable(0, cable, what), due[cable][what]);
            }
        }
        Check.refusesCable(town, 0, 5, 0);
        Check.refusesCable(town, 0, -1, 0);
        Check.refusesCable(town, 0, 0, -1);
        Check.refusesCable(town, 0, 0, 4);
        Check.refusesCable(town, 1, 0, 0);
        Check.refusesCable(town, -1, 0, 0);
        Check.refusesCable(town, MIN, MAX, MIN);
        Check.refusesCable(town, 0, MAX, 3);
    }

    // "j X P Y Q (a JOINT: PAIR P of CABLE X goes on as PAIR Q of CABLE Y, which begins in the BOX where X ends; what
    // was joined there to either of both is so no more)"
    // Promise 7: "To what a PAIR's far end is joined, with all SLIPS done: 8 times the CABLE and the PAIR. NONE: to
    // none, no such ones."
    private static void joints() {
        BuriedPairs town = Check.town("b 4;c 0 1 3 5;c 1 2 3 5;c 1 3 2 5;j 0 0 1 2;j 0 1 2 1;j 0 0 1 1;j 0 2 1 1");
        Check.due("the later joint took pair 1 of cable 1", town.joint(0, 0, 0), NONE);
        Check.due("joint of pair 1", town.joint(0, 0, 1), 17);
        Check.due("joint of pair 2", town.joint(0, 0, 2), 9);
        Check.due("nothing goes on", town.joint(0, 1, 0), NONE);
        Check.due("the first joint of pair 0 is no more", town.heard(0, 0, false, 1, 2, 0, 0, 1), 0);
        Check.due("no pair 3", town.joint(0, 0, 3), NONE);
        Check.due("no pair -1", town.joint(0, 0, -1), NONE);
        Check.due("no cable 3", town.joint(0, 3, 0), NONE);
        Check.due("no cable -1", town.joint(0, -1, 0), NONE);
        Check.due("no pair 8 that would be pair 0 of cable 1", town.joint(0, 0, 8), NONE);
        Check.due("no plan 1", town.joint(1, 0, 0), NONE);
        Check.due("no plan -1", town.joint(-1, 0, 0), NONE);
    }

    // "h X P H (HOUSE H, 0 .. 9, hangs at PAIR P of CABLE X, at its far end; whatever hung there, and where H hung,
    // is no more)"
    // Promise 8: "Where a HOUSE hangs, with all SLIPS done: 8 times the CABLE and the PAIR. NONE: nowhere, no such
    // ones."
    private static void houses() {
        BuriedPairs town = Check.town("b 3;c 0 1 3 5;c 0 2 3 5;h 0 0 1;h 0 0 2;h 1 2 3;h 1 1 3;h 1 0 0;h 1 0 0;h 0 2 9");
        Check.due("house 1 was put away", town.house(0, 1), NONE);
        Check.due("house 2", town.house(0, 2), 0);
        Check.due("house 3 went on", town.house(0, 3), 9);
        Check.due("house 0, twice at the same", town.house(0, 0), 8);
        Check.due("house 9", town.house(0, 9), 2);
        Check.due("nothing is left at pair 2 of cable 1", town.spare(0, 0, 2), 4);
        Check.due("no house 10", town.house(0, 10), NONE);
        Check.due("no house -1", town.house(0, -1), NONE);
        Check.due("no plan", town.house(1, 2), NONE);
        Check.due("no plan -1", town.house(-1, 2), NONE);
    }

    // "SLIPS (6 at most of a PLAN) are told by hand: a JOINT, or a HOUSE, as j and h; in their order they come behind
    // the PLAN's TEXT."
    private static void slips() {
        BuriedPairs town = Check.town(ROW);
        Check.due("a joint", town.slip(0, 0, 0, 3, 1, 2), 0);
        Check.due("it is joined", town.joint(0, 0, 3), 10);
        Check.due("a house", town.slip(0, 1, 1, 2, 4, 77), 1);
        Check.due("it hangs", town.house(0, 4), 10);
        Check.due("a house that goes", town.slip(0, 1, 1, 2, 1, NONE), 2);
        Check.due("it went", town.house(0, 1), 10);
        Check.due("what hung there is no more", town.house(0, 4), NONE);
        Check.due("a joint that takes another's place", town.slip(0, 0, 0, 0, 1, 2), 3);
        Check.due("that is no more", town.joint(0, 0, 3), NONE);
        Check.due("nor is its own old one", town.heard(0, 0, false, 1, 0, 0, 0, 1), 0);
        Check.due("joined", town.joint(0, 0, 0), 10);
        Check.due("slip", town.slip(0, 0, 0, 2, 3, 1), 4);
        Check.due("slip", town.slip(0, 0, 0, 2, 3, 0), 5);
        Check.due("a seventh", town.slip(0, 0, 0, 2, 3, 1), NONE);
        Check.due("it does nothing", town.joint(0, 0, 2), 24);
        Check.due("a seventh, a house", town.slip(0, 1, 0, 3, 9, 0), NONE);
        Check.due("it does not hang", town.house(0, 9), NONE);
        Check.due("six", town.count(4), 6);
    }

    // Promise 9: "NONE: no such ones, there are six."
    private static void slipsThatAreRefused() {
        BuriedPairs town = Check.town(ROW);
        Check.due("no kind 2", town.slip(0, 2, 0, 0, 1, 0), NONE);
        Check.due("no kind -1", town.slip(0, -1, 0, 0, 1, 0), NONE);
        Check.due("no cable 5", town.slip(0, 0, 5, 0, 1, 0), NONE);
        Check.due("no pair 4", town.slip(0, 0, 0, 4, 1, 0), NONE);
        Check.due("no pair -1", town.slip(0, 0, 0, -1, 1, 0), NONE);
        Check.due("no cable 5 to go on", town.slip(0, 0, 0, 0, 5, 0), NONE);
        Check.due("no cable -1 to go on", town.slip(0, 0, 0, 0, -1, 0), NONE);
        Check.due("no pair 3 there", town.slip(0, 0, 0, 0, 1, 3), NONE);
        Check.due("no pair -1 there", town.slip(0, 0, 0, 0, 1, -1), NONE);
        Check.due("it begins elsewhere", town.slip(0, 0, 0, 0, 2, 0), NONE);
        Check.due("it is the same", town.slip(0, 0, 0, 0, 0, 0), NONE);
        Check.due("backwards", town.slip(0, 0, 1, 0, 0, 0), NONE);
        Check.due("no house 10", town.slip(0, 1, 0, 0, 10, 0), NONE);
        Check.due("no house -1", town.slip(0, 1, 0, 0, -1, 0), NONE);
        Check.due("no pair for a house", town.slip(0, 1, 3, 2, 0, 0), NONE);
        Check.due("no cable for a house", town.slip(0, 1, -1, 0, 0, 0), NONE);
        Check.due("no plan", town.slip(1, 1, 0, 0, 0, 0), NONE);
        Check.due("no plan -1", town.slip(-1, 1, 0, 0, 0, 0), NONE);
        Check.due("none was taken", town.count(4), 0);
        Check.due("nothing changed", town.joint(0, 0, 0), 8);
    }

    // "FAULTS (10 at most of a PLAN)", "A WORLD is a set of FAULTS (bits) that are so."
    private static void troubles() {
        BuriedPairs town = Check.town(ROW);
        Check.due("none", town.troubles(0), 0);
        town.slip(0, 1, 0, 3, 5, 0);
        Check.due("swap, metres not asked", town.trouble(0, 0, 0, 0, 3, -5), 0);
        Check.due("break at 0, other not asked", town.trouble(0, 1, 0, 0, 99, 0), 1);
        Check.due("break at L", town.trouble(0, 1, 2, 1, -1, 30), 2);
        Check.due("touch at 0", town.trouble(0, 2, 3, 0, 1, 0), 3);
        Check.due("touch at L", town.trouble(0, 2, 3, 1, 0, 7), 4);
        Check.due("undone, others not asked", town.trouble(0, 3, 0, MIN, MAX, MIN), 5);
        Check.due("the same again", town.trouble(0, 3, 0, 0, 0, 0), 6);
        Check.due("the same swap again", town.trouble(0, 0, 0, 0, 3, 0), 7);
        Check.due("trouble", town.trouble(0, 1, 0, 0, 0, 1), 8);
        Check.due("trouble", town.trouble(0, 1, 0, 0, 0, 1), 9);
        Check.due("an eleventh", town.trouble(0, 1, 0, 0, 0, 1), NONE);
        Check.due("ten", town.troubles(0), 10);
        Check.due("1024 worlds", town.fitting(0, NONE), 1024);
        Check.due("the last world", town.served(0, 1023, true) >= 0, true);
        Check.due("no world 1024", town.served(0, 1024, true), NONE);
        Check.due("no plan", town.troubles(1), NONE);
        Check.due("no plan -1", town.troubles(-1), NONE);
    }

    // Promise 10: "NONE: no such ones, alike, there are ten."
    private static void troublesThatAreRefused() {
        BuriedPairs town = Check.town(ROW);
        Check.due("no kind 4", town.trouble(0, 4, 0, 0, 1, 0), NONE);
        Check.due("no kind -1", town.trouble(0, -1, 0, 0, 1, 0), NONE);
        Check.due("swap of no cable", town.trouble(0, 0, 5, 0, 1, 0), NONE);
        Check.due("swap of no pair", town.trouble(0, 0, 0, 4, 1, 0), NONE);
        Check.due("swap with no pair", town.trouble(0, 0, 0, 0, 4, 0), NONE);
        Check.due("swap with itself", town.trouble(0, 0, 0, 2, 2, 0), NONE);
        Check.due("break of no cable", town.trouble(0, 1, -1, 0, 0, 0), NONE);
        Check.due("break of no pair", town.trouble(0, 1, 0, -1, 0, 0), NONE);
        Check.due("break behind the end", town.trouble(0, 1, 0, 0, 0, 11), NONE);
        Check.due("break ahead of the start", town.trouble(0, 1, 0, 0, 0, -1), NONE);
        Check.due("touch with itself", town.trouble(0, 2, 0, 1, 1, 0), NONE);
        Check.due("touch of no pair", town.trouble(0, 2, 3, 2, 1, 0), NONE);
        Check.due("touch with no pair", town.trouble(0, 2, 3, 1, 2, 0), NONE);
        Check.due("touch behind the end", town.trouble(0, 2, 3, 0, 1, 8), NONE);
        Check.due("touch ahead of the start", town.trouble(0, 2, 3, 0, 1, -1), NONE);
        Check.due("no slip", town.trouble(0, 3, 0, 0, 0, 0), NONE);
        Check.due("no slip -1", town.trouble(0, 3, -1, 0, 0, 0), NONE);
        Check.due("no plan", town.trouble(1, 1, 0, 0, 0, 0), NONE);
        Check.due("none was taken", town.troubles(0), 0);
    }

    // "0 SWAP: PAIRS P and Q of a CABLE are crossed at its far end (several: one behind the other, as told)"
    // "WIRES: a PAIR of a CABLE, at its near end P, comes out at its far end as that with which it is crossed (as P
    // without a SWAP), but for BREAKS; JOINTS and HOUSES are at far ends as the numbers there are told."
    private static void swaps() {
        BuriedPairs town = Check.town("b 3;c 0 1 3 5;c 1 2 3 5;j 0 0 1 0;j 0 1 1 1;j 0 2 1 2");
        town.trouble(0, 0, 0, 0, 1, 0);
        town.trouble(0, 0, 0, 1, 2, 0);
        Check.due("straight", town.heard(0, 0, false, 0, 0, 0, 0, 1), 1);
        Check.due("crossed with 1", town.heard(0, 1, false, 0, 0, 0, 0, 1), 2);
        Check.due("0 comes out as 2, by one behind the other", town.heard(0, 3, false, 0, 0, 0, 0, 1), 4);
        Check.due("1 comes out as 0", town.heard(0, 3, false, 0, 1, 0, 0, 1), 1);
        Check.due("2 comes out as 1", town.heard(0, 3, false, 0, 2, 0, 0, 1), 2);
        Check.due("and goes on by the numbers there", town.heard(0, 3, false, 0, 0, 0, 1, 1), 4);
        Check.due("from the far end, by the numbers there", town.heard(0, 3, false, 0, 2, 1, 0, 0), 1);
        Check.due("the near end hears itself", town.heard(0, 3, false, 0, 1, 0, 0, 0), 2);
        Check.due("the far end hears itself", town.heard(0, 3, false, 0, 1, 1, 0, 1), 2);
        Check.due("back from the end of the row", town.heard(0, 3, false, 1, 2, 1, 0, 0), 1);
    }

    // "1 BREAK: PAIR P (as at the near end) is cut d metres from there (0 .. L)"
    // "(A BREAK at 0 cuts it off from its near end, one at L from its far end: a TOUCH at L lies behind one there.)"
    private static void breaks() {
        BuriedPairs town = Check.town("b 3;c 0 1 2 5;c 1 2 2 5;j 0 0 1 0;j 0 1 1 1");
        town.trouble(0, 1, 1, 0, 0, 0);
        town.trouble(0, 1, 1, 0, 0, 5);
        town.trouble(0, 1, 1, 0, 0, 3);
        town.trouble(0, 0, 1, 0, 1, 0);
        Check.due("cut at 0: not at the far end", town.heard(0, 1, false, 0, 0, 0, 1, 1), 0);
        Check.due("cut at 0: still at the near end", town.heard(0, 1, false, 0, 0, 0, 1, 0), 1);
        Check.due("cut at L: not at the far end", town.heard(0, 2, false, 0, 0, 0, 1, 1), 0);
        Check.due("the far end hears itself alone", town.heard(0, 2, false, 1, 0, 1, 1, 1), 1);
        Check.due("and not the near end", town.heard(0, 2, false, 1, 0, 1, 1, 0), 0);
        Check.due("cut at 3 goes by the near number", town.heard(0, 12, false, 0, 0, 0, 1, 1), 0);
        Check.due("the other comes out as 0", town.heard(0, 12, false, 0, 1, 0, 1, 1), 1);
        Check.due("the cut one's far end is 1", town.heard(0, 12, false, 1, 1, 1, 1, 0), 0);
        Check.due("all three", town.heard(0, 7, false, 1, 0, 0, 0, 0), 1);
    }

    // "2 TOUCH: PAIRS P and Q (likewise) touch d metres from there, when it is WET"
    // "What lies at d metres is nearer than a BREAK at more than d, and behind one at d or less."
    // "A TONE sent at a PAIR of a CABLE, at its near end (0) or far end (1, by the numbers there), goes along WIRES,
    // JOINTS, TOUCHES (if WET); HEARD at an end of a CABLE: PAIRS (by the numbers there) to which it comes, as bits."
    private static void touches() {
        BuriedPairs town = Check.town("b 3;c 0 1 3 9;c 1 2 3 9;j 0 0 1 0;j 0 1 1 1");
        town.trouble(0, 2, 0, 0, 1, 4);
        town.trouble(0, 1, 0, 0, 0, 4);
        town.trouble(0, 1, 0, 0, 0, 5);
        town.trouble(0, 2, 0, 1, 2, 9);
        town.trouble(0, 1, 0, 2, 0, 9);
        Check.due("wet, they touch", town.heard(0, 1, true, 0, 0, 0, 0, 1), 3);
        Check.due("dry, not", town.heard(0, 1, false, 0, 0, 0, 0, 1), 1);
        Check.due("and back to the near end", town.heard(0, 1, true, 0, 0, 0, 0, 0), 3);
        Check.due("a break at 4 lies ahead of the touch at 4", town.heard(0, 3, true, 0, 0, 0, 0, 1), 0);
        Check.due("so the other end touches", town.heard(0, 3, true, 0, 1, 0, 0, 1), 3);
        Check.due("and not its near end", town.heard(0, 3, true, 0, 1, 0, 0, 0), 2);
        Check.due("a break at 5 lies behind it", town.heard(0, 5, true, 0, 0, 0, 0, 1), 2);
        Check.due("between both breaks it is neither", town.heard(0, 7, true, 0, 1, 0, 0, 0), 2);
        Check.due("nor at the far end", town.heard(0, 7, true, 0, 1, 0, 0, 1), 2);
        Check.due("a touch at L lies behind a break there", town.heard(0, 24, true, 0, 1, 0, 0, 1), 6);
        Check.due("cut off from the near end", town.heard(0, 24, true, 0, 1, 0, 0, 0), 2);
        Check.due("by two touches, on along the joints", town.heard(0, 9, true, 0, 2, 0, 1, 1), 3);
        BuriedPairs other = Check.town("b 2;c 0 1 2 9");
        other.trouble(0, 2, 0, 1, 0, 0);
        other.trouble(0, 1, 0, 0, 0, 0);
        Check.due("a touch at 0", other.heard(0, 1, true, 0, 0, 0, 0, 0), 3);
        Check.due("lies behind a break there", other.heard(0, 3, true, 0, 0, 0, 0, 0), 1);
        Check.due("on the far side of it", other.heard(0, 3, true, 0, 0, 1, 0, 0), 2);
    }

    // "3 UNDONE: a SLIP was never done."
    private static void undoneSlips() {
        BuriedPairs town = Check.town("b 3;c 0 1 3 5;c 1 2 3 5;j 0 0 1 0;h 1 0 4");
        town.slip(0, 0, 0, 1, 1, 0);
        town.slip(0, 1, 1, 1, 4, 0);
        town.slip(0, 0, 0, 2, 1, 0);
        town.trouble(0, 3, 0, 0, 0, 0);
        town.trouble(0, 3, 1, 0, 0, 0);
        town.trouble(0, 3, 2, 0, 0, 0);
        town.trouble(0, 3, 2, 0, 0, 0);
        Check.due("all done: pair 2 leads on", town.heard(0, 0, false, 1, 0, 1, 0, 0), 4);
        Check.due("the last undone: pair 1", town.heard(0, 4, false, 1, 0, 1, 0, 0), 2);
        Check.due("told twice as undone: the same", town.heard(0, 12, false, 1, 0, 1, 0, 0), 2);
        Check.due("both undone: as the text", town.heard(0, 5, false, 1, 0, 1, 0, 0), 1);
        Check.due("the first alone undone changes nothing", town.heard(0, 1, false, 1, 0, 1, 0, 0), 4);
        Check.due("house 4 is fed by nothing where it went", town.fed(0, 0, false, 4), 0);
        Check.due("or hangs as the text tells", town.fed(0, 2, false, 4), 4);
        Check.due("as the plan has it with all slips", town.house(0, 4), 9);
    }

    // Promise 12: "HEARD of a TONE sent at PAIR p of CABLE x, at an end (0, 1), at an end of CABLE y. NONE: no such
    // ones, WORLD."
    private static void heardIsRefused() {
        BuriedPairs town = Check.town(ROW);
        town.trouble(0, 1, 0, 0, 0, 0);
        Check.due("heard", town.heard(0, 0, true, 0, 0, 0, 2, 1), 1);
        Check.due("elsewhere nothing", town.heard(0, 0, true, 0, 0, 0, 4, 1), 0);
        Check.due("no plan", town.heard(1, 0, true, 0, 0, 0, 2, 1), NONE);
        Check.due("no world 2", town.heard(0, 2, true, 0, 0, 0, 2, 1), NONE);
        Check.due("no world -1", town.heard(0, -1, true, 0, 0, 0, 2, 1), NONE);
        Check.due("no cable", town.heard(0, 0, true, 5, 0, 0, 2, 1), NONE);
        Check.due("no pair", town.heard(0, 0, true, 0, 4, 0, 2, 1), NONE);
        Check.due("no end 2", town.heard(0, 0, true, 0, 0, 2, 2, 1), NONE);
        Check.due("no end -1", town.heard(0, 0, true, 0, 0, -1, 2, 1), NONE);
        Check.due("no cable to listen", town.heard(0, 0, true, 0, 0, 0, 5, 1), NONE);
        Check.due("no cable -1 to listen", town.heard(0, 0, true, 0, 0, 0, -1, 1), NONE);
        Check.due("no end to listen", town.heard(0, 0, true, 0, 0, 0, 2, 2), NONE);
    }

    // "METRES at a PAIR of a CABLE, at an end: from there along the WIRE", "else to the other end and, if a JOINT is
    // there, on from it (into the next CABLE away from the EXCHANGE, or, at a near end, into that before), and so on;
    // how far, times 4, and 1 if it ends where a HOUSE hangs, 2 at a TOUCH, else 0."
    private static void metresAlongWires() {
        BuriedPairs town = Check.town(ROW);
        Check.due("to house 1", town.metres(0, 0, false, 0, 0, 0), 4 * 60 + 1);
        Check.due("back to the exchange", town.metres(0, 0, false, 2, 0, 1), 4 * 60);
        Check.due("from the middle on", town.metres(0, 0, false, 1, 1, 0), 4 * 50 + 1);
        Check.due("from the middle back", town.metres(0, 0, false, 1, 1, 1), 4 * 30);
        Check.due("to no house", town.metres(0, 0, false, 0, 3, 0), 4 * 10);
        Check.due("to house 3 on the branch", town.metres(0, 0, false, 0, 2, 0), 4 * 17 + 1);
        Check.due("a house where a joint goes on does not end it", town.slip(0, 1, 0, 0, 8, 0), 0);
        Check.due("the same as before", town.metres(0, 0, false, 0, 0, 0), 4 * 60 + 1);
        town.trouble(0, 0, 0, 0, 3, 0);
        Check.due("swapped to no joint", town.metres(0, 1, false, 0, 0, 0), 4 * 10);
        Check.due("swapped to the joint", town.metres(0, 1, false, 0, 3, 0), 4 * 60 + 1);
        Check.due("back through the swap", town.metres(0, 1, false, 2, 0, 1), 4 * 60);
        town.trouble(0, 1, 0, 3, 0, 2);
        Check.due("and the wire is named by its near end", town.metres(0, 3, false, 2, 0, 1), 4 * 58);
        Check.due("at its far end by the number there", town.metres(0, 3, false, 0, 0, 1), 4 * 8);
        BuriedPairs longest = Check.town("b 8;c 0 1 1 99;c 1 2 1 99;c 2 3 1 99;c 3 4 1 99;c 4 5 1 99;c 5 6 1 99;c 6 7 1 99"
            + ";j 0 0 1 0;j 1 0 2 0;j 2 0 3 0;j 3 0 4 0;j 4 0 5 0;j 5 0 6 0;h 6 0 0");
        Check.due("seven cables", longest.metres(0, 0, true, 0, 0, 0), 4 * 693 + 1);
        Check.due("and back", longest.metres(0, 0, true, 6, 0, 1), 4 * 693);
    }

    // "else to the first BREAK, else to the other end"
    private static void metresToBreaks() {
        BuriedPairs town = Check.town("b 3;c 0 1 2 9;c 1 2 2 9;j 0 0 1 0;h 1 0 0;h 0 1 1");
        town.trouble(0, 1, 0, 0, 0, 0);
        town.trouble(0, 1, 0, 0, 0, 9);
        town.trouble(0, 1, 1, 0, 0, 3);
        town.trouble(0, 1, 1, 0, 0, 5);
        town.trouble(0, 1, 0, 1, 0, 9);
        Check.due("at once", town.metres(0, 1, false, 0, 0, 0), 0);
        Check.due("from the far end", town.metres(0, 1, false, 0, 0, 1), 36);
        Check.due("a break at L", town.metres(0, 2, false, 0, 0, 0), 36);
        Check.due("from the far end at once", town.metres(0, 2, false, 0, 0, 1), 0);
        Check.due("the first of two", town.metres(0, 12, false, 0, 0, 0), 4 * 12);
        Check.due("the first of two from the other end", town.metres(0, 12, false, 1, 0, 1), 4 * 4);
        Check.due("a break at L ends short of the house", town.metres(0, 16, false, 0, 1, 0), 36);
        Check.due("without it, at the house", town.metres(0, 0, false, 0, 1, 0), 37);
        Check.due("back into the cable before, to its break at L", town.metres(0, 2, false, 1, 0, 1), 36);
        Check.due("or to its break at 0", town.metres(0, 1, false, 1, 0, 1), 4 * 18);
    }

    // "to the first TOUCH (if WET; also one at where one stands), else to the first BREAK"
    private static void metresToTouches() {
        BuriedPairs town = Check.town("b 3;c 0 1 2 9;c 1 2 2 9;j 0 0 1 0;h 1 0 0");
        town.trouble(0, 2, 0, 0, 1, 4);
        town.trouble(0, 1, 0, 0, 0, 4);
        town.trouble(0, 1, 0, 0, 0, 5);
        town.trouble(0, 2, 1, 1, 0, 0);
        town.trouble(0, 2, 1, 0, 1, 9);
        Check.due("dry", town.metres(0, 1, false, 0, 0, 0), 73);
        Check.due("wet", town.metres(0, 1, true, 0, 0, 0), 18);
        Check.due("the other pair touches, too", town.metres(0, 1, true, 0, 1, 0), 18);
        Check.due("from the far end", town.metres(0, 1, true, 0, 0, 1), 22);
        Check.due("a break at the same metre is first from the near end", town.metres(0, 3, true, 0, 0, 0), 16);
        Check.due("and second from the far end", town.metres(0, 3, true, 0, 0, 1), 22);
        Check.due("a break behind is second from the near end", town.metres(0, 5, true, 0, 0, 0), 18);
        Check.due("and first from the far end", town.metres(0, 5, true, 0, 0, 1), 16);
        Check.due("a touch at 0 of the next cable", town.metres(0, 8, true, 0, 0, 0), 38);
        Check.due("where one stands", town.metres(0, 8, true, 1, 0, 0), 2);
        Check.due("from the far end through all of it", town.metres(0, 8, true, 1, 0, 1), 38);
        Check.due("at L, before the house", town.metres(0, 16, true, 0, 0, 0), 4 * 18 + 2);
        Check.due("at L, where one stands", town.metres(0, 16, true, 1, 0, 1), 2);
        Check.due("the first of two", town.metres(0, 24, true, 1, 0, 0), 2);
        Check.due("of two from the other end", town.metres(0, 24, true, 1, 0, 1), 2);
        BuriedPairs other = Check.town("b 2;c 0 1 2 9");
        other.trouble(0, 2, 0, 0, 1, 0);
        other.trouble(0, 1, 0, 0, 0, 0);
        other.trouble(0, 2, 0, 0, 1, 9);
        other.trouble(0, 1, 0, 0, 0, 9);
        Check.due("a break at 0 is ahead of the touch there", other.metres(0, 3, true, 0, 0, 0), 0);
        Check.due("from the far end the touch", other.metres(0, 3, true, 0, 0, 1), 38);
        Check.due("at L the break is ahead", other.metres(0, 12, true, 0, 0, 0), 36);
        Check.due("from the far end the touch, at once", other.metres(0, 12, true, 0, 0, 1), 2);
    }

    // Promise 13: "NONE: no such ones, WORLD."
    private static void metresIsRefused() {
        BuriedPairs town = Check.town(ROW);
        Check.due("no plan", town.metres(1, 0, false, 0, 0, 0), NONE);
        Check.due("no plan -1", town.metres(-1, 0, false, 0, 0, 0), NONE);
        Check.due("no world 1", town.metres(0, 1, false, 0, 0, 0), NONE);
        Check.due("no world -1", town.metres(0, -1, false, 0, 0, 0), NONE);
        Check.due("no cable", town.metres(0, 0, false, 5, 0, 0), NONE);
        Check.due("no pair", town.metres(0, 0, false, 3, 2, 0), NONE);
        Check.due("no pair -1", town.metres(0, 0, false, 3, -1, 0), NONE);
        Check.due("no end 2", town.metres(0, 0, false, 0, 0, 2), NONE);
        Check.due("no end -1", town.metres(0, 0, false, 0, 0, -1), NONE);
    }

    // "A HOUSE is FED by the PAIRS of CABLES that begin at the EXCHANGE (numbered through, CABLE by CABLE, PAIR by
    // PAIR) from which a TONE, sent at the near end, comes to where it hangs.", "BOX 0 is the EXCHANGE"
    // Promise 14: "By which PAIRS a HOUSE is FED, as bits. NONE: it hangs nowhere, no such ones."
    private static void fedByTheExchange() {
        BuriedPairs town = Check.town("b 8;c 0 7 6 9;c 0 6 6 9;c 0 5 6 9;c 0 4 6 9;c 0 3 6 9;c 0 2 6 9;c 0 1 6 9;h 6 5 0;h 0 0 1;h 3 2 2");
        Check.due("the last pair of seven cables", town.fed(0, 0, false, 0), 1L << 41);
        Check.due("the first", town.fed(0, 0, false, 1), 1);
        Check.due("numbered through", town.fed(0, 0, false, 2), 1L << 20);
        town.trouble(0, 2, 6, 5, 4, 3);
        Check.due("wet, by two", town.fed(0, 1, true, 0), 3L << 40);
        Check.due("it hangs nowhere", town.fed(0, 0, false, 3), NONE);
        Check.due("no house 10", town.fed(0, 0, false, 10), NONE);
        Check.due("no house -1", town.fed(0, 0, false, -1), NONE);
        Check.due("no world", town.fed(0, 2, false, 0), NONE);
        Check.due("no plan", town.fed(1, 0, false, 0), NONE);
        BuriedPairs row = Check.town("b 4;c 1 2 3 5;c 0 1 2 5;c 0 3 2 5;j 1 0 0 0;h 0 0 1;h 0 1 2;h 2 1 3");
        Check.due("only cables from the exchange are numbered", row.fed(0, 0, false, 1), 1);
        Check.due("fed by none", row.fed(0, 0, false, 2), 0);
        Check.due("behind those of the cable before", row.fed(0, 0, false, 3), 8);
    }

    // "SERVED: by one just, and by that no other HOUSE."
    // Promise 15: "HOUSES that are SERVED, as bits. NONE: no such ones."
    private static void served() {
        BuriedPairs town = Check.town("b 3;c 0 1 3 9;c 1 2 3 9;j 0 0 1 0;j 0 1 1 1;h 1 0 1;h 1 1 2;h 0 2 9;h 1 2 5");
        Check.due("1, 2 and 9; 5 is fed by none", town.served(0, 0, false), 2 | 4 | 512);
        town.trouble(0, 2, 1, 0, 1, 4);
        town.trouble(0, 1, 0, 0, 0, 4);
        Check.due("wet: 1 and 2 by two", town.served(0, 1, true), 512);
        Check.due("dry", town.served(0, 1, false), 2 | 4 | 512);
        Check.due("cut", town.served(0, 2, false), 4 | 512);
        Check.due("wet and cut: both by one", town.served(0, 3, true), 512);
        town.slip(0, 1, 0, 0, 3, 0);
        Check.due("two houses on a wire", town.served(0, 0, false), 4 | 512);
        town.slip(0, 1, 0, 0, 0, 0);
        Check.due("house 0 is one of two", town.served(0, 0, false), 4 | 512);
        town.slip(0, 1, 1, 2, 1, 0);
        Check.due("house 0 is alone", town.served(0, 0, false), 1 | 4 | 512);
        Check.due("no world", town.served(0, 4, false), NONE);
        Check.due("no world -1", town.served(0, -1, false), NONE);
        Check.due("no plan", town.served(1, 0, false), NONE);
    }

    // "NEIGHBOURS of a HOUSE: others to which a TONE from where it hangs comes."
    // Promise 16: "NEIGHBOURS, as bits. NONE: it hangs nowhere, no such ones."
    private static void neighbours() {
        BuriedPairs town = Check.town("b 3;c 0 1 3 9;c 1 2 3 9;j 0 0 1 0;j 0 1 1 1;h 1 0 1;h 1 1 2;h 0 0 9");
        town.trouble(0, 2, 0, 0, 1, 4);
        town.trouble(0, 1, 0, 0, 0, 6);
        Check.due("on one wire", town.neighbours(0, 0, false, 1), 512);
        Check.due("likewise", town.neighbours(0, 0, false, 9), 2);
        Check.due("alone", town.neighbours(0, 0, false, 2), 0);
        Check.due("wet", town.neighbours(0, 1, true, 2), 2 | 512);
        Check.due("dry", town.neighbours(0, 1, false, 2), 0);
        Check.due("wet, cut between", town.neighbours(0, 3, true, 2), 0);
        Check.due("wet, cut, still on one wire", town.neighbours(0, 3, true, 1), 512);
        town.trouble(0, 0, 1, 1, 2, 0);
        town.slip(0, 1, 1, 2, 0, 0);
        Check.due("0 and 2 have changed wires", town.neighbours(0, 5, true, 0), 2 | 512);
        Check.due("so 2 hears none", town.neighbours(0, 5, true, 2), 0);
        Check.due("9 hears 0", town.neighbours(0, 5, true, 9), 1 | 2);
        Check.due("it hangs nowhere", town.neighbours(0, 0, false, 3), NONE);
        Check.due("no house", town.neighbours(0, 0, false, 10), NONE);
        Check.due("no house -1", town.neighbours(0, 0, false, -1), NONE);
        Check.due("no world", town.neighbours(0, 8, false, 1), NONE);
        Check.due("no plan", town.neighbours(1, 0, false, 1), NONE);
    }

    // "SPARE at a BOX (but 0): PAIRS of the CABLE that comes there (by the numbers of its far end) that some PAIR of
    // the EXCHANGE feeds, that lead to no HOUSE and to no JOINT there, as bits."
    // Promise 17: "SPARE at a BOX (not WET). NONE: no CABLE comes there, no such ones."
    private static void spares() {
        BuriedPairs town = Check.town("b 4;c 0 1 4 9;c 1 2 4 9;j 0 0 1 0;j 0 1 1 1;h 0 1 1;h 0 2 2;h 1 0 3");
        Check.due("neither joined nor with a house", town.spare(0, 0, 1), 8);
        Check.due("fed, with no house there", town.spare(0, 0, 2), 2);
        town.trouble(0, 0, 0, 2, 3, 0);
        town.trouble(0, 1, 0, 3, 0, 9);
        town.trouble(0, 2, 0, 3, 2, 0);
        Check.due("crossed: the number at the far end", town.spare(0, 1, 1), 8);
        Check.due("cut: not fed", town.spare(0, 2, 1), 0);
        Check.due("cut, and crossed to the house", town.spare(0, 3, 1), 8);
        Check.due("not wet", town.spare(0, 6, 1), 0);
        Check.due("no cable comes", town.spare(0, 0, 3), NONE);
        Check.due("the exchange", town.spare(0, 0, 0), NONE);
        Check.due("no box", town.spare(0, 0, 4), NONE);
        Check.due("no box -1", town.spare(0, 0, -1), NONE);
        Check.due("no world", town.spare(0, 8, 1), NONE);
        Check.due("no plan", town.spare(1, 0, 1), NONE);
        BuriedPairs lone = Check.town("b 3;c 1 2 2 5");
        Check.due("not fed by the exchange", lone.spare(0, 0, 2), 0);
    }

    // "TESTS (12 at most of a PLAN): 0 TONE: where it is sent (CABLE, PAIR, end), a CABLE and end where one listens;
    // 1 METRES: where."
    private static void testsAndTells() {
        BuriedPairs town = Check.town(ROW);
        town.trouble(0, 2, 0, 0, 1, 5);
        Check.due("a tone", town.test(0, 0, 0, 0, 0, 2, 1), 0);
        Check.due("metres, others not asked", town.test(0, 1, 2, 0, 1, 99, -7), 1);
        Check.due("tells of the tone", town.tells(0, 0, 1, true), 3);
        Check.due("dry", town.tells(0, 0, 1, false), 1);
        Check.due("without the touch", town.tells(0, 0, 0, true), 1);
        Check.due("tells of metres", town.tells(0, 1, 1, true), 4 * 55 + 2);
        Check.due("dry", town.tells(0, 1, 1, false), 4 * 60);
        Check.due("no test 2", town.tells(0, 2, 0, false), NONE);
        Check.due("no test -1", town.tells(0, -1, 0, false), NONE);
        Check.due("no world", town.tells(0, 0, 2, false), NONE);
        Check.due("no plan", town.tells(1, 0, 0, false), NONE);
        for (int i = 2; i < 12; i++) {
            Check.due("test", town.test(0, i % 2, 0, 0, 0, 0, 1), i);
        }
        Check.due("a thirteenth", town.test(0, 1, 0, 0, 0, 0, 1), NONE);
        Check.due("twelve", town.count(5), 12);
    }

    // Promise 18: "NONE: no such ones, there are twelve."
    private static void testsThatAreRefused() {
        BuriedPairs town = Check.town(ROW);
        Check.due("no kind 2", town.test(0, 2, 0, 0, 0, 0, 0), NONE);
        Check.due("no kind -1", town.test(0, -1, 0, 0, 0, 0, 0), NONE);
        Check.due("no cable", town.test(0, 1, 5, 0, 0, 0, 0), NONE);
        Check.due("no pair", town.test(0, 1, 0, 4, 0, 0, 0), NONE);
        Check.due("no end", town.test(0, 1, 0, 0, 2, 0, 0), NONE);
        Check.due("no end -1", town.test(0, 1, 0, 0, -1, 0, 0), NONE);
        Check.due("no cable to listen", town.test(0, 0, 0, 0, 0, 5, 0), NONE);
        Check.due("no cable -1 to listen", town.test(0, 0, 0, 0, 0, -1, 0), NONE);
        Check.due("no end to listen", town.test(0, 0, 0, 0, 0, 0, 2), NONE);
        Check.due("no plan", town.test(1, 1, 0, 0, 0, 0, 0), NONE);
        Check.due("no plan -1", town.test(-1, 1, 0, 0, 0, 0, 0), NONE);
        Check.due("none was taken", town.count(5), 0);
    }

    // "READINGS (24 at most): a TEST, WET or not, what it told."
    // Promise 20: "A READING: how many there are. NONE: no such TEST, told below 0, there are 24."
    private static void readings() {
        BuriedPairs town = Check.town(ROW);
        town.test(0, 1, 0, 0, 0, 0, 0);
        Check.due("none to take back", town.unread(0), NONE);
        Check.due("told below 0", town.read(0, 0, false, -1), NONE);
        Check.due("no test", town.read(0, 1, false, 0), NONE);
        Check.due("no test -1", town.read(0, -1, false, 0), NONE);
        Check.due("no plan", town.read(1, 0, false, 0), NONE);
        for (int i = 1; i <= 24; i++) {
            Check.due("read", town.read(0, 0, i % 2 == 0, i == 1 ? 0 : MAX), i);
        }
        Check.due("a twenty-fifth", town.read(0, 0, false, 0), NONE);
        Check.due("all there", town.count(6), 24);
        for (int i = 23; i >= 0; i--) {
            Check.due("unread", town.unread(0), i);
        }
        Check.due("none left", town.unread(0), NONE);
        Check.due("no plan to unread", town.unread(1), NONE);
        Check.due("and again", town.read(0, 0, false, 241), 1);
        Check.due("it fits", town.fitting(0, NONE), 1);
    }

    // "FITTING: WORLDS by which each READING is as told"
    private static void fitting() {
        BuriedPairs town = Check.town("b 2;c 0 1 2 9");
        Check.due("one world without faults", town.fitting(0, NONE), 1);
        Check.due("it is 0", town.fitting(0, 0), 0);
        town.test(0, 0, 0, 0, 0, 0, 1);
        town.test(0, 1, 0, 0, 0, 0, 0);
        town.trouble(0, 1, 0, 0, 0, 4);
        town.trouble(0, 1, 0, 0, 0, 6);
        town.trouble(0, 2, 0, 0, 1, 5);
        Check.due("eight", town.fitting(0, NONE), 8);
        Check.due("the last", town.fitting(0, 7), 7);
        Check.due("no ninth", town.fitting(0, 8), NONE);
        town.read(0, 1, false, 16);
        Check.due("with the break at 4", town.fitting(0, NONE), 4);
        Check.due("first", town.fitting(0, 0), 1);
        Check.due("second", town.fitting(0, 1), 3);
        Check.due("third", town.fitting(0, 2), 5);
        Check.due("fourth", town.fitting(0, 3), 7);
        Check.due("no fifth", town.fitting(0, 4), NONE);
        Check.due("i below NONE", town.fitting(0, -2), NONE);
        Check.due("i MIN", town.fitting(0, MIN), NONE);
        Check.due("i MAX", town.fitting(0, MAX), NONE);
        town.read(0, 0, true, 0);
        Check.due("nothing heard, wet: all the same", town.fitting(0, NONE), 4);
        town.unread(0);
        town.read(0, 1, true, 22);
        Check.due("nothing tells this too", town.fitting(0, NONE), 0);
        town.unread(0);
        town.unread(0);
        town.read(0, 1, true, 22);
        Check.due("the touch without the break at 4", town.fitting(0, NONE), 2);
        Check.due("it", town.fitting(0, 0), 4);
        Check.due("and with the one at 6", town.fitting(0, 1), 6);
        town.trouble(0, 1, 0, 1, 0, 1);
        Check.due("a new fault doubles them", town.fitting(0, NONE), 4);
        town.slip(0, 1, 0, 1, 0, 0);
        town.read(0, 1, false, 36);
        Check.due("both, wet and dry", town.fitting(0, NONE), 2);
        Check.due("the touch alone", town.fitting(0, 0), 4);
        town.slip(0, 1, 0, 0, 0, 0);
        Check.due("a slip makes old readings other ones", town.fitting(0, NONE), 0);
        Check.due("no plan", town.fitting(1, NONE), NONE);
        Check.due("no plan -1", town.fitting(-1, NONE), NONE);
    }

    // "FEWEST: with the fewest FAULTS (of several the set with the lower FAULT where two first differ)."
    private static void fewest() {
        BuriedPairs town = Check.town("b 2;c 0 1 4 9");
        town.test(0, 0, 0, 0, 0, 0, 1);
        town.trouble(0, 0, 0, 1, 2, 0);
        town.trouble(0, 0, 0, 0, 3, 0);
        town.trouble(0, 0, 0, 0, 1, 0);
        town.trouble(0, 0, 0, 1, 3, 0);
        town.trouble(0, 0, 0, 0, 3, 0);
        Check.due("none is the fewest", town.fewest(0), 0);
        town.read(0, 0, false, 8);
        Check.due("one fault, the lower of 1 and 4", town.fewest(0), 2);
        town.read(0, 0, false, 7);
        Check.due("none fits", town.fewest(0), NONE);
        Check.due("no plan", town.fewest(1), NONE);
        BuriedPairs pair = Check.town("b 2;c 0 1 4 9");
        pair.test(0, 0, 0, 0, 0, 0, 1);
        pair.test(0, 0, 0, 1, 0, 0, 1);
        pair.trouble(0, 1, 0, 0, 0, 1);
        pair.trouble(0, 1, 0, 1, 0, 1);
        pair.trouble(0, 1, 0, 1, 0, 2);
        pair.trouble(0, 1, 0, 0, 0, 2);
        pair.read(0, 0, false, 0);
        pair.read(0, 1, false, 0);
        Check.due("of {0,1}, {0,2}, {1,3}, {2,3} the first", pair.fewest(0), 3);
        BuriedPairs other = Check.town("b 2;c 0 1 4 9");
        other.test(0, 0, 0, 0, 0, 0, 1);
        other.test(0, 0, 0, 1, 0, 0, 1);
        other.trouble(0, 0, 0, 0, 2, 0);
        other.trouble(0, 0, 0, 1, 2, 0);
        other.trouble(0, 1, 0, 0, 0, 1);
        other.trouble(0, 1, 0, 1, 0, 1);
        other.read(0, 0, false, 2);
        Check.due("0 to 2, and 2 to 1", other.fewest(0), 3);
        lowestFaultBeatsLowestNumber();
    }

    /** {0, 3} is the higher number, {1, 2} the lower: fault 0 decides. */
    private static void lowestFaultBeatsLowestNumber() {
        BuriedPairs town = Check.town("b 2;c 0 1 6 9");
        town.test(0, 0, 0, 0, 0, 0, 1);
        town.trouble(0, 0, 0, 0, 4, 0);
        town.trouble(0, 0, 0, 0, 5, 0);
        town.trouble(0, 0, 0, 5, 3, 0);
        town.trouble(0, 0, 0, 4, 3, 0);
        town.read(0, 0, false, 8);
        Check.due("two fit: by number the first", town.fitting(0, 0), 6);
        Check.due("the fewest", town.fewest(0), 9);
    }

    // "SURE: FAULTS in all FITTING WORLDS; MAY: in some."
    // Promise 24: "SURE (0), MAY (1), as bits. NONE: none fits, no such ones."
    private static void sureAndMay() {
        BuriedPairs town = Check.town("b 2;c 0 1 2 9");
        town.test(0, 1, 0, 0, 0, 0, 0);
        town.trouble(0, 1, 0, 0, 0, 4);
        town.trouble(0, 1, 0, 0, 0, 3);
        town.trouble(0, 1, 0, 1, 0, 4);
        Check.due("nothing is sure", town.sure(0, 0), 0);
        Check.due("all may be", town.sure(0, 1), 7);
        town.read(0, 0, false, 16);
        Check.due("the break at 4 is sure", town.sure(0, 0), 1);
        Check.due("the one at 3 may not be", town.sure(0, 1), 5);
        Check.due("no what 2", town.sure(0, 2), NONE);
        Check.due("no what -1", town.sure(0, -1), NONE);
        Check.due("no plan", town.sure(1, 0), NONE);
        town.read(0, 0, false, 12);
        Check.due("none fits", town.sure(0, 0), NONE);
        Check.due("none fits, may", town.sure(0, 1), NONE);
    }

    // "A TEST, WET or not, PARTS the FITTING WORLDS by what it would tell: LARGEST: how many tell the same at most;
    // KINDS: how many things could be told."
    private static void parts() {
        BuriedPairs town = Check.town("b 2;c 0 1 2 9");
        town.test(0, 1, 0, 0, 0, 0, 0);
        town.test(0, 0, 0, 0, 0, 0, 1);
        town.trouble(0, 1, 0, 0, 0, 4);
        town.trouble(0, 1, 0, 0, 0, 3);
        town.trouble(0, 2, 0, 0, 1, 2);
        Check.due("metres: 3 tells most", town.parts(0, 0, false, 0), 4);
        Check.due("9, 4 or 3", town.parts(0, 0, false, 1), 3);
        Check.due("wet: the touch", town.parts(0, 0, true, 0), 4);
        Check.due("9, 4, 3 or the touch", town.parts(0, 0, true, 1), 4);
        Check.due("tone: cut", town.parts(0, 1, false, 0), 6);
        Check.due("1 or 0", town.parts(0, 1, false, 1), 2);
        Check.due("tone, wet: 0, 1, 2 or 3", town.parts(0, 1, true, 1), 4);
        Check.due("tone, wet: largest", town.parts(0, 1, true, 0), 3);
        town.read(0, 0, false, 16);
        Check.due("of those that fit", town.parts(0, 0, false, 0), 2);
        Check.due("one thing", town.parts(0, 0, false, 1), 1);
        Check.due("no what", town.parts(0, 0, false, 2), NONE);
        Check.due("no what -1", town.parts(0, 0, false, -1), NONE);
        Check.due("no test", town.parts(0, 2, false, 0), NONE);
        Check.due("no test -1", town.parts(0, -1, false, 0), NONE);
        Check.due("no plan", town.parts(1, 0, false, 0), NONE);
        town.read(0, 0, false, 17);
        Check.due("none fits: none tell the same", town.parts(0, 0, false, 0), 0);
        Check.due("none fits: nothing is told", town.parts(0, 0, false, 1), 0);
    }

    // "NEXT from a BOX with so many metres to walk: the TEST whose BOX is no farther with the least LARGEST; of
    // several the nearer one, then the lower number."
    // Promise 26: "NONE: there is none, none fits, no such ones, far below 0."
    private static void next() {
        BuriedPairs town = Check.town(ROW);
        Check.due("no tests", town.next(0, false, 0, 100), NONE);
        town.trouble(0, 1, 0, 0, 0, 4);
        town.trouble(0, 1, 1, 0, 0, 4);
        town.test(0, 1, 4, 0, 0, 0, 0);
        town.test(0, 0, 0, 0, 0, 2, 1);
        town.test(0, 1, 0, 0, 0, 0, 0);
        town.test(0, 1, 0, 0, 0, 2, 1);
        town.test(0, 1, 1, 0, 1, 0, 0);
        Check.due("of the least, the nearest, the lower number", town.next(0, false, 0, 1000), 2);
        Check.due("from box 2 the nearer one", town.next(0, false, 2, 1000), 4);
        Check.due("from box 3 too", town.next(0, false, 3, 1000), 4);
        Check.due("just far enough", town.next(0, false, 3, 30), 4);
        Check.due("not so far", town.next(0, false, 3, 29), 1);
        Check.due("no metre", town.next(0, false, 3, 0), 1);
        Check.due("the same as parts tells", town.parts(0, 1, false, 0), 3);
        Check.due("and for the better one", town.parts(0, 4, false, 0), 2);
        Check.due("no metre, nothing there", town.next(0, false, 4, 0), NONE);
        Check.due("no way but to the lone ones", town.next(0, false, 6, 1000), 0);
        Check.due("where it parts nothing", town.next(0, false, 5, 0), 0);
        Check.due("far MAX", town.next(0, true, 0, MAX), 2);
        Check.due("far below 0", town.next(0, false, 0, -1), NONE);
        Check.due("no box", town.next(0, false, 7, 9), NONE);
        Check.due("no box -1", town.next(0, false, -1, 9), NONE);
        Check.due("no plan", town.next(1, false, 0, 9), NONE);
        town.read(0, 2, false, 7);
        Check.due("none fits", town.next(0, false, 0, 9), NONE);
        town.unread(0);
        town.read(0, 2, false, 16);
        Check.due("what parts those that fit", town.next(0, false, 0, 1000), 4);
    }

    // "WALK from BOX to BOX: metres along CABLES; there may be no way."
    // Promise 27: "NONE: no way, no such ones."
    private static void walks() {
        BuriedPairs town = Check.town(ROW);
        Check.due("along the row", town.walk(0, 0, 3), 60);
        Check.due("and back", town.walk(0, 3, 0), 60);
        Check.due("into the branch", town.walk(0, 3, 4), 57);
        Check.due("back out of it", town.walk(0, 4, 2), 27);
        Check.due("nowhere", town.walk(0, 4, 4), 0);
        Check.due("the lone pair", town.walk(0, 6, 5), 9);
        Check.due("no way", town.walk(0, 0, 5), NONE);
        Check.due("no way back", town.walk(0, 6, 4), NONE);
        Check.due("no box", town.walk(0, 0, 7), NONE);
        Check.due("no box -1", town.walk(0, -1, 0), NONE);
        Check.due("no plan", town.walk(1, 0, 0), NONE);
        Check.due("no plan -1", town.walk(-1, 0, 0), NONE);
    }

    // "DISTANCE of a BREAK of a PAIR (by its near end): d (0 .. L) by which, this being the only FAULT, each METRES
    // READING (not WET) is no more than e metres off what it would tell: the least and the greatest."
    // Promise 28: "NONE: none, no such ones, e below 0."
    private static void distances() {
        BuriedPairs town = Check.town(ROW);
        town.trouble(0, 1, 0, 0, 0, 2);
        town.test(0, 1, 0, 0, 0, 0, 0);
        town.test(0, 1, 2, 0, 1, 0, 0);
        town.test(0, 0, 0, 0, 0, 0, 1);
        Check.due("no reading: least", town.distance(0, 1, 0, 0, 0), 0);
        Check.due("no reading: greatest", town.distance(0, 1, 0, 0, 1), 20);
        town.read(0, 2, false, 33);
        town.read(0, 0, true, 4);
        Check.due("tones and wet ones do not count", town.distance(0, 1, 0, 0, 1), 20);
        town.read(0, 0, false, 4 * 18 + 3);
        Check.due("to the metre", town.distance(0, 1, 0, 0, 0), 8);
        Check.due("to the metre", town.distance(0, 1, 0, 0, 1), 8);
        Check.due("three off: least", town.distance(0, 1, 0, 3, 0), 5);
        Check.due("three off: greatest", town.distance(0, 1, 0, 3, 1), 11);
        Check.due("nine off: least", town.distance(0, 1, 0, 9, 0), 0);
        Check.due("all that is", town.distance(0, 1, 0, MAX, 1), 20);
        town.read(0, 1, false, 4 * 44);
        Check.due("from both sides: two metres apart", town.distance(0, 1, 0, 0, 0), NONE);
        Check.due("one off each: least", town.distance(0, 1, 0, 1, 0), 7);
        Check.due("one off each: greatest", town.distance(0, 1, 0, 1, 1), 7);
        Check.due("on another pair nothing explains it", town.distance(0, 1, 1, 9, 0), NONE);
        Check.due("unless all is off", town.distance(0, 1, 1, 42, 1), 20);
        Check.due("e below 0", town.distance(0, 1, 0, -1, 0), NONE);
        Check.due("no what", town.distance(0, 1, 0, 1, 2), NONE);
        Check.due("no what -1", town.distance(0, 1, 0, 1, -1), NONE);
        Check.due("no cable", town.distance(0, 5, 0, 1, 0), NONE);
        Check.due("no pair", town.distance(0, 1, 3, 1, 0), NONE);
        Check.due("no plan", town.distance(1, 1, 0, 1, 0), NONE);
        BuriedPairs far = Check.town("b 2;c 0 1 1 99");
        far.test(0, 1, 0, 0, 0, 0, 0);
        far.read(0, 0, false, MAX);
        Check.due("a reading beyond all", far.distance(0, 0, 0, 1000, 0), NONE);
        Check.due("with e beyond all", far.distance(0, 0, 0, MAX, 1), 99);
        Check.due("at L it ends as without a break", far.unread(0) + far.read(0, 0, false, 396), 1);
        Check.due("d is L", far.distance(0, 0, 0, 0, 0), 99);
    }

    // "WANTED: of a HOUSE a PAIR at the far end of the CABLE where it hangs", "by hand; none at first; refused, if
    // another HOUSE on that CABLE wants it"
    // Promise 29: "A HOUSE wants a PAIR (NONE: none). False: it hangs nowhere, no such ones, another one on that
    // CABLE wants it."
    private static void wants() {
        BuriedPairs town = Check.town("b 3;c 0 1 3 9;c 0 2 2 9;h 0 0 1;h 0 1 2;h 1 0 3");
        Check.due("a pair", town.want(0, 1, 2), true);
        Check.due("the pair where it is", town.want(0, 2, 1), true);
        Check.due("another wants it", town.want(0, 2, 2), false);
        Check.due("on another cable it is another pair", town.want(0, 3, 1), true);
        Check.due("again the same", town.want(0, 1, 2), true);
        Check.due("none", town.want(0, 1, NONE), true);
        Check.due("so another may", town.want(0, 2, 2), true);
        Check.due("two may want none", town.want(0, 3, NONE), true);
        Check.due("no pair 3", town.want(0, 1, 3), false);
        Check.due("no pair 2 on cable 1", town.want(0, 3, 2), false);
        Check.due("no pair -2", town.want(0, 1, -2), false);
        Check.due("it hangs nowhere", town.want(0, 4, 0), false);
        Check.due("nor wants none", town.want(0, 4, NONE), false);
        Check.due("no house", town.want(0, 10, 0), false);
        Check.due("no house -1", town.want(0, -1, 0), false);
        Check.due("no plan", town.want(1, 1, 0), false);
        Check.due("no plan -1", town.want(-1, 1, 0), false);
        Check.due("refused changed nothing: 2 goes to 2 alone", town.moves(0, 0, 1, NONE), 1);
        Check.due("2 goes to 2", town.moves(0, 0, 1, 0), 18);
    }

    // "(as the PLAN and all SLIPS tell"
    private static void wantsAcrossSlips() {
        BuriedPairs town = Check.town("b 3;c 0 1 3 9;c 0 2 2 9;h 0 0 1;h 0 1 2");
        Check.due("none hangs", town.want(0, 5, 0), false);
        town.slip(0, 1, 0, 2, 5, 0);
        Check.due("hung by a slip", town.want(0, 5, 0), true);
        Check.due("so it is wanted", town.want(0, 2, 0), false);
        town.slip(0, 1, 1, 0, 5, 0);
        Check.due("it hangs on another cable now", town.want(0, 2, 0), true);
        Check.due("there a pair 2 is none", town.want(0, 5, 2), false);
        town.slip(0, 1, 0, 1, 1, 0);
        Check.due("2 hangs nowhere", town.want(0, 2, NONE), false);
        Check.due("what it wants stands in no one's way", town.want(0, 1, 0), true);
    }

    // "one at a time, each to a FREE PAIR (by the numbers of the far end)", "Each time the lowest HOUSE that is not
    // on the PAIR it wants, while that is FREE, goes there"
    // Promise 30: "NONE: without, no CABLE comes there, no such ones."
    private static void moves() {
        BuriedPairs town = Check.town("b 2;c 0 1 4 9;h 0 0 3;h 0 1 5;h 0 2 7");
        Check.due("none wanted", town.moves(0, 0, 1, NONE), 0);
        Check.due("no first", town.moves(0, 0, 1, 0), NONE);
        town.want(0, 3, 1);
        town.want(0, 5, 2);
        town.want(0, 7, 3);
        Check.due("a chain", town.moves(0, 0, 1, NONE), 3);
        Check.due("first the one that can", town.moves(0, 0, 1, 0), 8 * 7 + 3);
        Check.due("then the next", town.moves(0, 0, 1, 1), 8 * 5 + 2);
        Check.due("then the last", town.moves(0, 0, 1, 2), 8 * 3 + 1);
        Check.due("no more", town.moves(0, 0, 1, 3), NONE);
        Check.due("i below NONE", town.moves(0, 0, 1, -2), NONE);
        Check.due("i MAX", town.moves(0, 0, 1, MAX), NONE);
        Check.due("nothing is moved by asking", town.house(0, 3), 0);
        Check.due("no box", town.moves(0, 0, 2, NONE), NONE);
        Check.due("no box -1", town.moves(0, 0, -1, NONE), NONE);
        Check.due("the exchange", town.moves(0, 0, 0, NONE), NONE);
        Check.due("no world", town.moves(0, 1, 1, NONE), NONE);
        Check.due("no plan", town.moves(1, 0, 1, NONE), NONE);
        BuriedPairs lowest = Check.town("b 2;c 0 1 6 9;h 0 0 9;h 0 1 2");
        lowest.want(0, 9, 3);
        lowest.want(0, 2, 4);
        Check.due("the lowest house first", lowest.moves(0, 0, 1, 0), 8 * 2 + 4);
        Check.due("then the other", lowest.moves(0, 0, 1, 1), 8 * 9 + 3);
    }

    // "if there is none such, the lowest of those not on the PAIR they want, where another HOUSE hangs that wants
    // one, too, and is not on it, and that have not gone so yet, goes to the lowest FREE PAIR"
    private static void movesAside() {
        BuriedPairs town = Check.town("b 2;c 0 1 6 9;h 0 0 0;h 0 1 1;h 0 2 2;h 0 3 3");
        town.want(0, 0, 1);
        town.want(0, 1, 0);
        town.want(0, 2, 3);
        town.want(0, 3, 2);
        int[] due = {4, 8, 1, 2 * 8 + 4, 3 * 8 + 2, 2 * 8 + 3};
        Check.due("two rings", town.moves(0, 0, 1, NONE), due.length);
        for (int i = 0; i < due.length; i++) {
            Check.due("move " + i, town.moves(0, 0, 1, i), due[i]);
        }
        BuriedPairs full = Check.town("b 2;c 0 1 2 9;h 0 0 0;h 0 1 1");
        full.want(0, 0, 1);
        full.want(0, 1, 0);
        Check.due("nowhere to step aside", full.moves(0, 0, 1, NONE), 0);
        BuriedPairs content = Check.town("b 2;c 0 1 3 9;h 0 0 0;h 0 1 1");
        content.want(0, 0, 1);
        Check.due("none steps aside for one that wants none", content.moves(0, 0, 1, NONE), 0);
        BuriedPairs ring = Check.town("b 2;c 0 1 4 9;h 0 0 4;h 0 1 5;h 0 2 6");
        ring.want(0, 4, 1);
        ring.want(0, 5, 2);
        ring.want(0, 6, 0);
        int[] round = {4 * 8 + 3, 6 * 8, 5 * 8 + 2, 4 * 8 + 1};
        Check.due("a ring of three", ring.moves(0, 0, 1, NONE), round.length);
        for (int i = 0; i < round.length; i++) {
            Check.due("move " + i, ring.moves(0, 0, 1, i), round[i]);
        }
    }

    // "MOVES at a BOX, by a WORLD (not WET), of HOUSES that hang at the CABLE that comes there in that WORLD"
    // "one at which none hangs then, without a JOINT, to which a TONE from some PAIR of the EXCHANGE comes"
    private static void movesInWorlds() {
        BuriedPairs town = Check.town("b 3;c 0 1 5 9;c 1 2 1 9;j 0 4 1 0;h 0 0 1;h 0 1 2");
        town.slip(0, 1, 0, 2, 1, 0);
        town.trouble(0, 3, 0, 0, 0, 0);
        town.trouble(0, 1, 0, 3, 0, 2);
        town.trouble(0, 2, 0, 3, 0, 2);
        town.trouble(0, 0, 0, 3, 4, 0);
        town.want(0, 1, 3);
        Check.due("as the slips tell", town.moves(0, 0, 1, NONE), 1);
        Check.due("to 3", town.moves(0, 0, 1, 0), 11);
        Check.due("cut: not free", town.moves(0, 2, 1, NONE), 0);
        Check.due("cut and touching: not wet", town.moves(0, 6, 1, NONE), 0);
        Check.due("crossed: the other wire is whole", town.moves(0, 10, 1, NONE), 1);
        town.want(0, 1, 4);
        Check.due("a joint is there", town.moves(0, 0, 1, NONE), 0);
        town.want(0, 1, 0);
        Check.due("free, since the slip was done", town.moves(0, 0, 1, 0), 8);
        Check.due("there already, since it was not", town.moves(0, 1, 1, NONE), 0);
        Check.due("none hangs in box 2", town.moves(0, 0, 2, NONE), 0);
    }

    // "it ends when neither can be"
    private static void movesThatEnd() {
        BuriedPairs town = Check.town("b 2;c 0 1 3 9;h 0 0 0;h 0 1 1");
        town.trouble(0, 1, 0, 0, 0, 4);
        town.want(0, 0, 1);
        town.want(0, 1, 0);
        Check.due("pair 0 is cut: aside, then it ends", town.moves(0, 1, 1, NONE), 1);
        Check.due("0 steps aside", town.moves(0, 1, 1, 0), 2);
        BuriedPairs once = Check.town("b 2;c 0 1 4 9;h 0 0 0;h 0 1 1");
        once.trouble(0, 1, 0, 3, 0, 4);
        once.want(0, 0, 1);
        once.want(0, 1, 3);
        Check.due("one steps aside once, though the other stays", once.moves(0, 1, 1, NONE), 1);
        Check.due("to the lowest free pair", once.moves(0, 1, 1, 0), 2);
        Check.due("uncut, both come home", once.moves(0, 0, 1, NONE), 2);
        BuriedPairs zero = Check.town("b 2;c 0 1 4 9;h 0 1 6;h 0 2 7");
        zero.want(0, 6, 2);
        zero.want(0, 7, 1);
        Check.due("aside to pair 0", zero.moves(0, 0, 1, 0), 48);
        BuriedPairs all = Check.town("b 2;c 0 1 6 9;h 0 0 0;h 0 1 1;h 0 2 2;h 0 3 3;h 0 4 4");
        for (int house = 0; house < 5; house++) {
            all.want(0, house, (house + 1) % 5);
        }
        Check.due("a ring of five and one free", all.moves(0, 0, 1, NONE), 6);
        Check.due("last home", all.moves(0, 0, 1, 5), 1);
    }

    // Promise 31: "0 PLANS, 1 bytes of the TAPE; of PLAN 0: 2 BOXES, 3 CABLES, 4 SLIPS, 5 TESTS, 6 READINGS (0
    // without one). NONE for others."
    private static void counts() {
        BuriedPairs town = Check.town(ROW);
        Check.feed(town, "b 2");
        town.slip(0, 1, 0, 0, 0, 0);
        town.test(0, 1, 0, 0, 0, 0, 0);
        town.test(0, 1, 0, 0, 0, 0, 0);
        town.read(0, 0, false, 1);
        town.read(0, 0, false, 1);
        town.read(0, 0, false, 1);
        int[] due = {1, 3, 7, 5, 1, 2, 3};
        for (int what = 0; what < due.length; what++) {
            Check.due("count " + what, town.count(what), due[what]);
        }
        Check.due("count 7", town.count(7), NONE);
        Check.due("count -1", town.count(-1), NONE);
        Check.due("count MIN", town.count(MIN), NONE);
        Check.due("count MAX", town.count(MAX), NONE);
    }

    // "PLANS (6 at most)": what is told of one is not told of another.
    private static void plansApart() {
        BuriedPairs town = Check.town(ROW);
        Check.due("a second plan", Check.plan(town, "b 2;c 0 1 2 9;h 0 0 0"), 1);
        town.trouble(0, 1, 0, 0, 0, 4);
        town.test(1, 1, 0, 0, 0, 0, 0);
        town.read(1, 0, false, 37);
        Check.due("faults of the second", town.troubles(1), 0);
        Check.due("tests of the first", town.count(5), 0);
        Check.due("worlds of the first", town.fitting(0, NONE), 2);
        Check.due("worlds of the second", town.fitting(1, NONE), 1);
        Check.due("metres of the first", town.metres(0, 0, false, 0, 0, 0), 241);
        Check.due("metres of the second", town.metres(1, 0, false, 0, 0, 0), 37);
        Check.due("boxes counted are those of plan 0", town.count(2), 7);
    }
}
