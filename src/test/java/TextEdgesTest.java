/** Part 1 of the terms, and where the fault of a text lies: each sentence that names an edge, one test a sentence. */
public final class TextEdgesTest {
    private static final int NONE = BuriedPairs.NONE;

    /** Cable 0 of 3 pairs to box 1, and from there cables 1 and 2 of 2 and 4 pairs. */
    private static final String THREE = "b 4;c 0 1 3 5;c 1 2 2 9;c 1 3 4 9";

    public static void main(String[] args) {
        twoToEightBoxes();
        boxesAreNumberedFromNought();
        theNearBoxOfACable();
        theFarBoxLiesAbove();
        noneComesThereSoFar();
        oneToSixPairs();
        oneToNinetyNineMetres();
        cablesAreNumberedAsTold();
        theCableOfAJoint();
        thePairOfAJoint();
        theNextCableBeginsThere();
        thePairOfTheNextCable();
        theCableAndPairOfAHouse();
        housesAreNoughtToNine();
        aThirdDigit();
        aBlankAheadOfEachNumber();
        blanksWhereOneLikes();
        noOtherByteIsABlank();
        aSecondB();
        theFirstIsAB();
        lettersAndWhatFollows();
        anEndThatComesTooEarly();
        everyByteChanged();
        aJointTakesThePlaceOfOthers();
        aHouseTakesThePlaceOfOthers();
        Check.finish("TextEdgesTest");
    }

    private static void fault(String text, int want) {
        BuriedPairs town = new BuriedPairs();
        Check.feed(town, text);
        Check.due("fault of '" + text + "'", town.fault(), want);
        Check.due("plan of '" + text + "'", town.plan(), want == NONE ? 0 : NONE);
        Check.due("bytes behind plan of '" + text + "'", town.count(1), want == NONE ? 0 : text.length());
    }

    /**
     * "Numbers of one or two digits (one out of bounds, of one digit too, is wrong at its last digit": a number behind
     * a text, all of one digit and of two; those from low to high are taken, and behind them the text goes on, or is
     * whole.
     */
    private static void number(String before, int low, int high, boolean last) {
        for (int value = 0; value < 100; value++) {
            boolean fine = value >= low && value <= high;
            if (value < 10) {
                String one = before + value;
                fault(one, fine ? last ? NONE : one.length() : one.length() - 1);
            }
            String two = before + value / 10 + value % 10;
            fault(two, fine ? last ? NONE : two.length() : two.length() - 1);
        }
    }

    // "first b and how many BOXES (2 .. 8"
    private static void twoToEightBoxes() {
        number("b ", 2, 8, true);
    }

    // "numbered 0 .."
    private static void boxesAreNumberedFromNought() {
        for (int boxes = 2; boxes <= 8; boxes++) {
            BuriedPairs town = Check.town("b " + boxes);
            Check.due("boxes", town.count(2), boxes);
            Check.due("box 0", town.walk(0, 0, 0), 0);
            Check.due("the last box", town.walk(0, boxes - 1, boxes - 1), 0);
            Check.due("none behind it", town.walk(0, boxes, boxes), NONE);
            Check.due("no box -1", town.walk(0, -1, -1), NONE);
        }
    }

    // "c A B K L (a CABLE from BOX A": a box is any of those that are.
    private static void theNearBoxOfACable() {
        for (int boxes = 2; boxes <= 8; boxes++) {
            number("b " + boxes + ";c ", 0, boxes - 1, false);
        }
    }

    // "A below B", "so is a B not above A"
    private static void theFarBoxLiesAbove() {
        for (int near = 0; near < 8; near++) {
            number("b 8;c " + near + " ", near + 1, 7, false);
        }
        number("b 5;c 2 ", 3, 4, false);
        number("b 2;c 0 ", 1, 1, false);
    }

    // "none coming to B so far", "or to which a CABLE comes already"
    private static void noneComesThereSoFar() {
        number("b 3;c 0 2 1 1;c 0 ", 1, 1, false);
        number("b 3;c 0 1 1 1;c 0 ", 2, 2, false);
        number("b 3;c 1 2 1 1;c 0 ", 1, 1, false);
        fault("b 3;c 0 1 1 1;c 1 2 1 1;c 0 1 1 1", 28);
        fault("b 3;c 0 1 1 1;c 1 2 1 1;c 0 2 1 1", 28);
        fault("b 3;c 0 1 1 1;c 0 2 1 1", NONE);
        fault("b 8;c 0 1 1 1;c 0 2 1 1;c 0 3 1 1;c 0 4 1 1;c 0 5 1 1;c 0 6 1 1;c 0 7 1 1", NONE);
        fault("b 8;c 0 1 1 1;c 0 2 1 1;c 0 3 1 1;c 0 4 1 1;c 0 5 1 1;c 0 6 1 1;c 0 7 1 1;c 6 07", 79);
    }

    // "K PAIRS, 1 .. 6"
    private static void oneToSixPairs() {
        number("b 2;c 0 1 ", 1, 6, false);
        for (int pairs = 1; pairs <= 6; pairs++) {
            BuriedPairs town = Check.town("b 2;c 0 1 " + pairs + " 9");
            Check.due("pairs", town.cable(0, 0, 2), pairs);
            Check.due("pair 0", town.metres(0, 0, false, 0, 0, 0), 36);
            Check.due("the last pair", town.metres(0, 0, false, 0, pairs - 1, 0), 36);
            Check.due("none behind it", town.metres(0, 0, false, 0, pairs, 0), NONE);
        }
    }

    // "L metres, 1 .. 99"
    private static void oneToNinetyNineMetres() {
        number("b 2;c 0 1 1 ", 1, 99, true);
        for (int metres : new int[] {1, 9, 10, 99}) {
            BuriedPairs town = Check.town("b 2;c 0 1 1 " + metres);
            Check.due("metres", town.cable(0, 0, 3), metres);
            Check.due("so far to walk", town.walk(0, 0, 1), metres);
        }
    }

    // "CABLES are numbered as told"
    private static void cablesAreNumberedAsTold() {
        BuriedPairs town = Check.town("b 4;c 2 3 1 7;c 0 2 2 8;c 0 1 3 9");
        int[] far = {3, 2, 1};
        for (int cable = 0; cable < 3; cable++) {
            Check.due("where cable " + cable + " ends", town.cable(0, cable, 1), far[cable]);
        }
        Check.refusesCable(town, 0, 3, 1);
    }

    // "j X P Y Q (a JOINT: PAIR P of CABLE X": a cable told so far.
    private static void theCableOfAJoint() {
        number(THREE + ";j ", 0, 2, false);
        number("b 2;j ", 0, -1, false);
        number("b 3;c 0 1 1 1;j ", 0, 0, false);
        fault("b 3;c 0 1 1 1;j 1 0 0 0;c 1 2 1 1", 16);
    }

    private static void thePairOfAJoint() {
        number(THREE + ";j 0 ", 0, 2, false);
        number(THREE + ";j 1 ", 0, 1, false);
        number(THREE + ";j 2 ", 0, 3, false);
    }

    // "CABLE Y, which begins in the BOX where X ends", "a Y that does not begin where X ends"
    private static void theNextCableBeginsThere() {
        number(THREE + ";j 0 2 ", 1, 2, false);
        number(THREE + ";j 1 0 ", 0, -1, false);
        number("b 4;c 0 1 1 1;c 1 2 1 1;c 2 3 1 1;j 1 0 ", 2, 2, false);
        number("b 4;c 1 2 1 1;c 2 3 1 1;c 0 1 1 1;j 2 0 ", 0, 0, false);
    }

    private static void thePairOfTheNextCable() {
        number(THREE + ";j 0 2 1 ", 0, 1, true);
        number(THREE + ";j 0 2 2 ", 0, 3, true);
    }

    // "h X P H (HOUSE H .. hangs at PAIR P of CABLE X"
    private static void theCableAndPairOfAHouse() {
        number(THREE + ";h ", 0, 2, false);
        number("b 2;h ", 0, -1, false);
        number(THREE + ";h 0 ", 0, 2, false);
        number(THREE + ";h 2 ", 0, 3, false);
    }

    // "HOUSE H, 0 .. 9"
    private static void housesAreNoughtToNine() {
        number(THREE + ";h 2 3 ", 0, 9, true);
        for (int house = 0; house <= 9; house++) {
            Check.due("it hangs", Check.town(THREE + ";h 2 3 " + house).house(0, house), 19);
        }
    }

    // "a third digit .. are such": but a number of two that is out of bounds is wrong before it.
    private static void aThirdDigit() {
        String[] fine = {"b 02", "b 2;c 00", "b 2;c 0 01", "b 2;c 0 1 06", "b 2;c 0 1 1 10", "b 2;c 0 1 1 99",
            THREE + ";j 00", THREE + ";j 0 02", THREE + ";j 0 0 01", THREE + ";j 0 0 1 01",
            THREE + ";h 02", THREE + ";h 2 03", THREE + ";h 2 3 09"};
        for (String text : fine) {
            for (int digit = 0; digit <= 9; digit++) {
                fault(text + digit, text.length());
                fault(text + digit + ";", text.length());
            }
        }
        fault("b 100", 3);
        fault("b 2;c 0 1 1 000", 13);
        fault(THREE + ";h 2 3 100", THREE.length() + 8);
    }

    // "blanks (32), one or more, ahead of each number"
    private static void aBlankAheadOfEachNumber() {
        String[] ahead = {"b", "b 2;c", "b 2;c 0", "b 2;c 0 1", "b 2;c 0 1 1", THREE + ";j", THREE + ";j 0",
            THREE + ";j 0 0", THREE + ";j 0 0 1", THREE + ";h", THREE + ";h 0", THREE + ";h 0 0"};
        int[] next = {2, 0, 1, 1, 1, 0, 0, 1, 0, 0, 0, 0};
        for (int i = 0; i < ahead.length; i++) {
            if (!Character.isDigit(ahead[i].charAt(ahead[i].length() - 1))) {
                fault(ahead[i] + next[i], ahead[i].length());
            }
            for (int blanks = 1; blanks <= 4; blanks++) {
                String text = ahead[i] + " ".repeat(blanks) + next[i];
                boolean last = text.matches("b +2|.*c 0 1 1 +1|.*j 0 0 1 +0|.*h 0 0 +0");
                fault(text, last ? NONE : text.length());
            }
        }
        fault("b 2;c 01 1 1", 9);
        fault("b 2;c 0 11 1", 9);
    }

    // "as many as one likes ahead of a letter, of a ; and of the end"
    private static void blanksWhereOneLikes() {
        for (int blanks : new int[] {0, 1, 2, 17, 250}) {
            String some = " ".repeat(blanks);
            fault(some + "b 2;c 0 1 1 1", NONE);
            fault("b 2;" + some + "c 0 1 1 1", NONE);
            fault("b 2" + some + ";c 0 1 1 1", NONE);
            fault("b 2;c 0 1 1 1" + some, NONE);
            fault("b 2;c 0 1 1 1;" + some + "h 0 0 0", NONE);
            fault("b 2;c 0 1 1 1" + some + ";h 0 0 0", NONE);
            fault(some + "x", blanks);
            fault("b 2" + some + "x", 3 + blanks);
            fault("b 2;" + some + "x", 4 + blanks);
        }
        fault("b 0 2", 2);
        fault("b 2;c 0 1 1 1 1", 14);
        fault("b 2; ;c 0 1 1 1", 5);
    }

    // "blanks (32)": no other byte is one.
    private static void noOtherByteIsABlank() {
        for (int other : new int[] {1, 9, 10, 11, 12, 13, 31, 33, 95, 127, 128, 160, 255}) {
            String one = "" + (char) other;
            fault(one + "b 2", 0);
            fault("b" + one + "2", 1);
            fault("b " + one + "2", 2);
            fault("b 2" + one, 3);
            fault("b 2" + one + ";c 0 1 1 1", 3);
            fault("b 2;" + one + "c 0 1 1 1", 4);
            fault("b 2;c 0" + one + "1 1 1", 7);
        }
    }

    // "a second b are such"
    private static void aSecondB() {
        fault("b 2;b", 4);
        fault("b 2;b 2", 4);
        fault("b 2;   b 2", 7);
        fault("b 2;c 0 1 1 1;b 2", 14);
        fault("b 2 b 2", 4);
        fault("b b", 2);
        fault("b 2;c 0 1 1 1;h 0 0 0;b 2", 22);
    }

    // "first b"
    private static void theFirstIsAB() {
        for (String other : new String[] {"c 0 1 1 1", "j 0 0 0 0", "h 0 0 0", ";b 2", "2", "B 2"}) {
            fault(other, 0);
            fault("  " + other, 2);
        }
    }

    // "then any of: c .. j .. h": any byte where a letter, a blank or a ; is due.
    private static void lettersAndWhatFollows() {
        for (int one = 1; one < 256; one++) {
            String sign = "" + (char) one;
            boolean blank = one == ' ';
            boolean digit = one >= '0' && one <= '9';
            fault(sign, blank || one == 'b' ? 1 : 0);
            fault("b" + sign, blank ? 2 : 1);
            fault("b 2;" + sign, blank || one == 'c' || one == 'j' || one == 'h' ? 5 : 4);
            fault("b 2;c" + sign, blank ? 6 : 5);
            fault("b 2;c " + sign, blank ? 7 : one == '0' || one == '1' ? 7 : 6);
            fault("b 2;c 0 1 1 1 " + sign, blank ? NONE : one == ';' ? 15 : 14);
            fault("b 2;c 0 1 1 1" + sign, blank || digit ? NONE : one == ';' ? 14 : 13);
        }
    }

    // "the length, if it ends too early"
    private static void anEndThatComesTooEarly() {
        String text = " b  3 ; c 0 1 2 11;c  1 2 06 99 ; j 0 1 1 5;h 1 05  9 ";
        int whole = 0;
        for (int length = 0; length <= text.length(); length++) {
            String start = text.substring(0, length);
            // Cut within 06 it has no pairs: a number out of bounds, and no end that comes too early.
            boolean zero = start.endsWith(" 2 0");
            boolean ends = start.matches(" b  3 *( ; c 0 1 2 11?(;c  1 2 06 99?( ?( ; j 0 1 1 5(;h 1 05  9 ?)?)?)?)?)?");
            whole += ends ? 1 : 0;
            fault(start, ends ? NONE : zero ? length - 1 : length);
        }
        Check.due("starts that are plans", whole, 10);
    }

    // "the first byte at which no PLAN can go on": each byte of a text, changed to each other.
    private static void everyByteChanged() {
        String text = " b 3;c 0 1 2 11 ;c 1 2 6 9;j 0 1 1 05;h 1 0 9";
        for (int at = 0; at < text.length(); at++) {
            for (int one = 1; one < 256; one++) {
                String other = text.substring(0, at) + (char) one + text.substring(at + 1);
                BuriedPairs town = new BuriedPairs();
                Oracle oracle = new Oracle();
                Check.feed(town, other);
                Check.feed(oracle, other);
                Check.due("fault of '" + other + "'", town.fault(), oracle.fault());
            }
        }
    }

    // "what was joined there to either of both is so no more"
    private static void aJointTakesThePlaceOfOthers() {
        BuriedPairs first = Check.town(THREE + ";j 0 0 1 0;j 0 0 2 3");
        Check.due("what went on from there goes on anew", first.joint(0, 0, 0), 19);
        Check.due("the old one comes from nowhere", first.metres(0, 0, false, 1, 0, 1), 36);
        BuriedPairs second = Check.town(THREE + ";j 0 0 1 0;j 0 1 1 0");
        Check.due("what came there goes on no more", second.joint(0, 0, 0), NONE);
        Check.due("the new one does", second.joint(0, 0, 1), 8);
        Check.due("and is the one that comes there", second.heard(0, 0, false, 1, 0, 1, 0, 0), 2);
        BuriedPairs both = Check.town(THREE + ";j 0 0 1 0;j 0 1 1 1;j 0 0 1 1");
        Check.due("of either", both.joint(0, 0, 0), 9);
        Check.due("and of both", both.joint(0, 0, 1), NONE);
        Check.due("none comes to pair 0", both.heard(0, 0, false, 1, 0, 1, 0, 1), 0);
        BuriedPairs same = Check.town(THREE + ";j 0 0 1 0;j 0 0 1 0");
        Check.due("the same twice stays", same.joint(0, 0, 0), 8);
        Check.due("on both sides", same.heard(0, 0, false, 1, 0, 1, 0, 0), 1);
        BuriedPairs other = Check.town(THREE + ";j 0 0 1 0;j 0 1 2 0;h 0 0 4");
        Check.due("another pair's is left alone", other.joint(0, 0, 0), 8);
        Check.due("and a house hangs beside a joint", other.house(0, 4), 0);
    }

    // "whatever hung there, and where H hung, is no more"
    private static void aHouseTakesThePlaceOfOthers() {
        BuriedPairs there = Check.town(THREE + ";h 0 0 4;h 0 0 5");
        Check.due("what hung there", there.house(0, 4), NONE);
        Check.due("hangs no more", there.house(0, 5), 0);
        BuriedPairs gone = Check.town(THREE + ";h 0 0 4;h 0 1 4");
        Check.due("it hangs anew", gone.house(0, 4), 1);
        Check.due("and no more where it hung", gone.spare(0, 0, 1), 5);
        BuriedPairs both = Check.town(THREE + ";h 0 0 4;h 0 1 5;h 0 0 5");
        Check.due("both at once: the one", both.house(0, 4), NONE);
        Check.due("the other", both.house(0, 5), 0);
        Check.due("and its old place", both.spare(0, 0, 1), 6);
        BuriedPairs same = Check.town(THREE + ";h 0 0 4;h 0 0 4");
        Check.due("the same twice stays", same.house(0, 4), 0);
        Check.due("and takes its pair", same.spare(0, 0, 1), 6);
        BuriedPairs back = Check.town(THREE + ";h 0 0 4;h 0 0 5;h 0 1 4");
        Check.due("one that was put away comes back", back.house(0, 4), 1);
        Check.due("and leaves the other", back.house(0, 5), 0);
    }
}
