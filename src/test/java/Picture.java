import java.util.ArrayList;
import java.util.List;
import java.util.NoSuchElementException;

/**
 * All that an object answers to questions, and at the end what it takes next: two objects with the same picture are
 * in the same state. The object is spent by it, so pictures are taken of twins.
 */
final class Picture {
    /** With what made the object before, it stays within the 512 calls of the document. */
    private static final int MOST_CALLS = 400;
    private static final int NONE = BuriedPairs.NONE;

    private final BuriedPairs town;
    private final List<String> rows = new ArrayList<>();

    private Picture(BuriedPairs town) {
        this.town = town;
    }

    static List<String> of(BuriedPairs town) {
        Picture picture = new Picture(town);
        picture.ofTheTape();
        int plans = town.count(0);
        for (int plan = 0; plan < plans; plan++) {
            picture.ofThePlan(plan);
        }
        for (int plan = 0; plan < plans; plan++) {
            picture.ofWhatComesNext(plan);
        }
        picture.ofTheNextPlan(plans);
        Check.due("calls for a picture are few: " + picture.rows.size(), picture.rows.size() < MOST_CALLS, true);
        return picture.rows;
    }

    /** Every call to the object comes through here, so the rows are as many as the calls. */
    private int row(String what, int answer) {
        rows.add(what + " = " + answer);
        return answer;
    }

    private int cable(int plan, int cable, int what) {
        try {
            return row("plan " + plan + ", cable " + cable + ", " + what, town.cable(plan, cable, what));
        } catch (NoSuchElementException e) {
            return row("plan " + plan + ", no cable " + cable + ", " + what, NONE);
        }
    }

    private void ofTheTape() {
        for (int what = 0; what <= 6; what++) {
            row("count " + what, town.count(what));
        }
        row("fault", town.fault());
    }

    private void ofThePlan(int plan) {
        String name = "plan " + plan + ": ";
        int faults = row(name + "troubles", town.troubles(plan));
        int cables = 0;
        while (cable(plan, cables, 0) != NONE) {
            ofTheCable(name, plan, cables++, (1 << faults) - 1);
        }
        if (cables > 0) {
            ofWhatHangsOnCables(name, plan, faults);
        }
        ofTheFits(name, plan);
        for (int box = 0; row(name + "box " + box, town.walk(plan, box, box)) == 0; box++) {
            row(name + "walk to " + box, town.walk(plan, 0, box));
            int moves = row(name + "moves in " + box, town.moves(plan, 0, box, NONE));
            for (int i = 0; i < moves; i++) {
                row(name + "move in " + box, town.moves(plan, 0, box, i));
            }
        }
    }

    private void ofWhatHangsOnCables(String name, int plan, int faults) {
        for (int house = 0; house < 10; house++) {
            row(name + "house " + house, town.house(plan, house));
        }
        row(name + "served, no fault", town.served(plan, 0, false));
        for (int fault = 0; fault < faults; fault++) {
            row(name + "served, fault " + fault, town.served(plan, 1 << fault, true));
        }
        ofTheTests(name, plan, faults);
    }

    private void ofTheCable(String name, int plan, int cable, int allFaults) {
        cable(plan, cable, 1);
        cable(plan, cable, 3);
        int pairs = cable(plan, cable, 2);
        for (int pair = 0; pair < pairs; pair++) {
            row(name + "joint of " + cable + " " + pair, town.joint(plan, cable, pair));
        }
        row(name + "metres of " + cable, town.metres(plan, allFaults, true, cable, 0, 0));
        row(name + "distance in " + cable, town.distance(plan, cable, 0, 0, 1));
    }

    private void ofTheTests(String name, int plan, int faults) {
        for (int test = 0; row(name + "test " + test, town.tells(plan, test, 0, false)) != NONE; test++) {
            row(name + "test " + test + ", all faults", town.tells(plan, test, (1 << faults) - 1, true));
            row(name + "largest of " + test, town.parts(plan, test, true, 0));
        }
    }

    private void ofTheFits(String name, int plan) {
        int fits = row(name + "fitting", town.fitting(plan, NONE));
        row(name + "first", town.fitting(plan, 0));
        row(name + "last", town.fitting(plan, fits - 1));
        row(name + "fewest", town.fewest(plan));
        row(name + "sure", town.sure(plan, 0));
        row(name + "may", town.sure(plan, 1));
        row(name + "next", town.next(plan, true, 0, 99));
    }

    /** Of plans but 0 no question tells how many slips, tests and readings there are; the next one of each does. */
    private void ofWhatComesNext(int plan) {
        String name = "plan " + plan + ", then: ";
        row(name + "test", town.test(plan, 1, 0, 0, 0, 0, 0));
        row(name + "read", town.read(plan, 0, false, 0));
        while (row(name + "unread", town.unread(plan)) != NONE) {
            row(name + "fitting", town.fitting(plan, NONE));
        }
        row(name + "trouble", town.trouble(plan, 1, 0, 0, 0, 0));
        row(name + "slip", town.slip(plan, 1, 0, 0, 0, 0));
    }

    private void ofTheNextPlan(int plans) {
        row("plan", town.plan());
        for (int cable = 0; cable(plans, cable, 1) != NONE; cable++) {
            cable(plans, cable, 3);
        }
        row("end", town.end(1) ? 1 : 0);
        row("fault of its first byte", town.fault());
    }
}
