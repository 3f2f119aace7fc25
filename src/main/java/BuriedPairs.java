import java.util.Arrays;
import java.util.NoSuchElementException;

/** Wires under the stones of a town; the document's promises say what each call answers. */
public final class BuriedPairs {
    public static final int NONE = -1;

    private static final int MOST_PLANS = 6;
    private static final int MOST_BYTES = 300;
    private static final int MOST_BOXES = 8;
    private static final int MOST_CABLES = 7;
    private static final int MOST_PAIRS = 6;
    private static final int MOST_METRES = 99;
    private static final int HOUSES = 10;
    private static final int MOST_SLIPS = 6;
    private static final int MOST_TROUBLES = 10;
    private static final int MOST_TESTS = 12;
    private static final int MOST_READINGS = 24;
    private static final int WORLDS = 1 << MOST_TROUBLES;
    // A SITE is a PAIR of a CABLE as the document writes it: 8 times the CABLE and the PAIR.
    private static final int SITES = 8 * MOST_CABLES;
    // Each BREAK makes one PIECE more of a wire.
    private static final int MOST_PIECES = MOST_TROUBLES + 1;
    // Nothing that a TEST tells reaches this: METRES along seven CABLES, times 4, and at most 2.
    private static final int TELLINGS = 4 * (MOST_CABLES * MOST_METRES + 1);

    private static final int SWAP = 0;
    private static final int BREAK = 1;
    private static final int TOUCH = 2;
    private static final int UNDONE = 3;

    private static final int JOINT_SLIP = 0;
    private static final int HOUSE_SLIP = 1;

    private static final int TONE_TEST = 0;
    private static final int METRES_TEST = 1;

    private static final int NEAR = 0;
    private static final int FAR = 1;

    private final Tape tape;
    private final TextReader reader;
    private final Plan[] plans;
    private final Bench bench;
    private final Mover mover;
    private Plan draft;
    private int told;

    public BuriedPairs() {
        tape = new Tape();
        reader = new TextReader(tape);
        plans = new Plan[MOST_PLANS];
        bench = new Bench();
        mover = new Mover();
        draft = new Plan();
        told = 0;
    }

    public int feed(int a, int b, int c, int d, int e) {
        int more = bytesIn(a) + bytesIn(b) + bytesIn(c) + bytesIn(d) + bytesIn(e);
        if (tape.size() + more > MOST_BYTES) {
            return NONE;
        }
        tape.take(a);
        tape.take(b);
        tape.take(c);
        tape.take(d);
        tape.take(e);
        return tape.size();
    }

    public boolean end(int n) {
        return tape.cutTo(n);
    }

    public int fault() {
        return reader.readInto(draft);
    }

    public int plan() {
        if (told < 0 || told >= plans.length || reader.readInto(draft) != NONE) {
            return NONE;
        }
        plans[told] = draft;
        draft = new Plan();
        tape.cutTo(0);
        told++;
        return told - 1;
    }

    public int cable(int plan, int cable, int what) throws NoSuchElementException {
        Plan its = planAt(plan);
        if (its == null || !its.hasCable(cable) || what < 0 || what > 3) {
            throw new NoSuchElementException();
        }
        return its.cables.at(cable, what);
    }

    public int joint(int plan, int cable, int pair) {
        Plan its = planAt(plan);
        if (its == null || !its.hasPair(cable, pair)) {
            return NONE;
        }
        return valueAt(its.all.onward, siteOf(cable, pair));
    }

    public int house(int plan, int house) {
        Plan its = planAt(plan);
        if (its == null) {
            return NONE;
        }
        return valueAt(its.all.home, house);
    }

    public int slip(int plan, int kind, int x, int p, int y, int q) {
        Plan its = planAt(plan);
        if (its == null || !its.hasPair(x, p)) {
            return NONE;
        }
        boolean joins = kind == JOINT_SLIP && its.meet(x, y) && its.hasPair(y, q);
        boolean hangs = kind == HOUSE_SLIP && isHouse(y);
        if (!joins && !hangs) {
            return NONE;
        }
        return its.addSlip(kind, siteOf(x, p), joins ? siteOf(y, q) : y);
    }

    public int trouble(int plan, int kind, int x, int p, int q, int d) {
        Plan its = planAt(plan);
        if (its == null || !its.canHaveTrouble(kind, x, p, q, d)) {
            return NONE;
        }
        return its.addTrouble(kind, x, p, q, d);
    }

    public int troubles(int plan) {
        Plan its = planAt(plan);
        return its == null ? NONE : its.troubles.size();
    }

    public int heard(int plan, int world, boolean wet, int x, int p, int end, int y, int its) {
        Plan where = planWith(plan, world);
        if (where == null || !where.hasPair(x, p) || !isEnd(end) || !where.hasCable(y) || !isEnd(its)) {
            return NONE;
        }
        bench.wires.lay(where, world);
        bench.tone.send(bench.wires, wet, siteOf(x, p), end);
        return bench.tone.comesTo(y, its);
    }

    public int metres(int plan, int world, boolean wet, int x, int p, int end) {
        Plan its = planWith(plan, world);
        if (its == null || !its.hasPair(x, p) || !isEnd(end)) {
            return NONE;
        }
        bench.wires.lay(its, world);
        return bench.wires.measure(wet, siteOf(x, p), end);
    }

    public long fed(int plan, int world, boolean wet, int house) {
        Plan its = planWith(plan, world);
        if (its == null) {
            return NONE;
        }
        bench.wires.lay(its, world);
        int site = bench.wires.homeOf(house);
        return site == NONE ? NONE : bench.feedersOf(site, wet);
    }

    public int served(int plan, int world, boolean wet) {
        Plan its = planWith(plan, world);
        if (its == null) {
            return NONE;
        }
        bench.wires.lay(its, world);
        return bench.servedHouses(wet);
    }

    public int neighbours(int plan, int world, boolean wet, int house) {
        Plan its = planWith(plan, world);
        if (its == null) {
            return NONE;
        }
        bench.wires.lay(its, world);
        return bench.housesHearing(house, wet);
    }

    public int spare(int plan, int world, int box) {
        Plan its = planWith(plan, world);
        if (its == null || its.cableTo(box) == NONE) {
            return NONE;
        }
        bench.wires.lay(its, world);
        return bench.openPairs(its.cableTo(box)) & ~bench.wires.hungPairs(its.cableTo(box));
    }

    public int test(int plan, int kind, int x, int p, int end, int y, int its) {
        Plan where = planAt(plan);
        if (where == null || !where.hasPair(x, p) || !isEnd(end)) {
            return NONE;
        }
        boolean listens = kind == TONE_TEST && where.hasCable(y) && isEnd(its);
        if (!listens && kind != METRES_TEST) {
            return NONE;
        }
        return where.tests.add(kind, siteOf(x, p), end, listens ? y : x, listens ? its : end);
    }

    public int tells(int plan, int test, int world, boolean wet) {
        Plan its = planWith(plan, world);
        if (its == null || !its.tests.has(test)) {
            return NONE;
        }
        bench.wires.lay(its, world);
        return bench.tell(its, test, wet);
    }

    public int read(int plan, int test, boolean wet, int told) {
        Plan its = planAt(plan);
        if (its == null || !its.tests.has(test) || told < 0) {
            return NONE;
        }
        return its.addReading(test, wet, told);
    }

    public int unread(int plan) {
        Plan its = planAt(plan);
        return its == null ? NONE : its.dropReading();
    }

    public int fitting(int plan, int i) {
        Plan its = planAt(plan);
        if (its == null) {
            return NONE;
        }
        bench.findFits(its);
        return i == NONE ? its.sheet.fitCount : its.sheet.fitAt(i);
    }

    public int fewest(int plan) {
        Plan its = planAt(plan);
        if (its == null) {
            return NONE;
        }
        bench.findFits(its);
        return its.sheet.smallest();
    }

    public int sure(int plan, int what) {
        Plan its = planAt(plan);
        if (its == null || what < 0 || what > 1) {
            return NONE;
        }
        bench.findFits(its);
        return what == 0 ? its.sheet.inAll() : its.sheet.inSome();
    }

    public int parts(int plan, int test, boolean wet, int what) {
        Plan its = planAt(plan);
        if (its == null || !its.tests.has(test) || what < 0 || what > 1) {
            return NONE;
        }
        bench.findFits(its);
        bench.fill(its, 1 << Sheet.columnOf(test, wet));
        bench.partFits(its, test, wet);
        return what == 0 ? bench.largest : bench.kinds;
    }

    public int next(int plan, boolean wet, int box, int far) {
        Plan its = planAt(plan);
        if (its == null || !its.hasBox(box) || far < 0) {
            return NONE;
        }
        bench.findFits(its);
        if (its.sheet.fitCount == 0) {
            return NONE;
        }
        bench.fill(its, bench.columnsOfAll(its, wet));
        return bench.bestTest(its, wet, box, far);
    }

    public int walk(int plan, int one, int other) {
        Plan its = planAt(plan);
        if (its == null) {
            return NONE;
        }
        return its.way(one, other);
    }

    public int distance(int plan, int cable, int pair, int e, int what) {
        Plan its = planAt(plan);
        if (its == null || !its.hasPair(cable, pair) || e < 0 || what < 0 || what > 1) {
            return NONE;
        }
        return bench.breakAt(its, siteOf(cable, pair), e, what == 1);
    }

    public boolean want(int plan, int house, int pair) {
        Plan its = planAt(plan);
        return its != null && its.setWanted(house, pair);
    }

    public int moves(int plan, int world, int box, int i) {
        Plan its = planWith(plan, world);
        if (its == null || its.cableTo(box) == NONE) {
            return NONE;
        }
        bench.wires.lay(its, world);
        mover.work(bench.wires, its.cableTo(box), bench.openPairs(its.cableTo(box)));
        return i == NONE ? mover.made : mover.moveAt(i);
    }

    public int count(int what) {
        Plan first = planAt(0);
        switch (what) {
            case 0:
                return told;
            case 1:
                return tape.size();
            case 2:
                return first == null ? 0 : first.boxes;
            case 3:
                return first == null ? 0 : first.cables.size();
            case 4:
                return first == null ? 0 : first.slips.size();
            case 5:
                return first == null ? 0 : first.tests.size();
            case 6:
                return first == null ? 0 : first.readings.size();
            default:
                return NONE;
        }
    }

    private Plan planAt(int plan) {
        if (plan < 0 || plan >= told || plan >= plans.length) {
            return null;
        }
        return plans[plan];
    }

    private Plan planWith(int plan, int world) {
        Plan its = planAt(plan);
        return its != null && its.hasWorld(world) ? its : null;
    }

    private static int bytesIn(int number) {
        int bytes = 0;
        for (int shift = 24; shift >= 0; shift -= 8) {
            if (((number >>> shift) & 255) != 0) {
                bytes++;
            }
        }
        return bytes;
    }

    private static boolean isEnd(int end) {
        return end == NEAR || end == FAR;
    }

    private static boolean isHouse(int house) {
        return house >= 0 && house < HOUSES;
    }

    private static int siteOf(int cable, int pair) {
        return 8 * cable + pair;
    }

    private static int cableOf(int site) {
        return site >> 3;
    }

    private static int pairOf(int site) {
        return site & 7;
    }

    // Rows are read and written through these two, so that no index is used without a look at it.
    private static int valueAt(int[] row, int index) {
        return index >= 0 && index < row.length ? row[index] : NONE;
    }

    private static void setAt(int[] row, int index, int value) {
        if (index >= 0 && index < row.length) {
            row[index] = value;
        }
    }

    /** The TAPE: bytes that came, none of them 0. */
    private static final class Tape {
        private final int[] bytes;
        private int length;

        Tape() {
            bytes = new int[MOST_BYTES];
            length = 0;
        }

        int size() {
            return length;
        }

        int byteAt(int index) {
            return index < length ? valueAt(bytes, index) : NONE;
        }

        void take(int number) {
            for (int shift = 24; shift >= 0; shift -= 8) {
                int one = (number >>> shift) & 255;
                if (one != 0 && length < bytes.length) {
                    setAt(bytes, length, one);
                    length++;
                }
            }
        }

        boolean cutTo(int n) {
            if (n < 0 || n > length) {
                return false;
            }
            length = n;
            return true;
        }
    }

    /** Rows of up to five numbers, so many at most; what is not there is NONE. */
    private static final class Ledger {
        private static final int WIDTH = 5;
        private final int[] cells;
        private final int most;
        private int rows;

        Ledger(int most) {
            this.most = Math.max(0, most);
            cells = new int[WIDTH * this.most];
            rows = 0;
        }

        int size() {
            return rows;
        }

        boolean has(int row) {
            return row >= 0 && row < rows;
        }

        int at(int row, int column) {
            int cell = WIDTH * row + column;
            boolean there = row >= 0 && row < rows && column >= 0 && column < WIDTH;
            return there && cell >= 0 && cell < cells.length ? cells[cell] : NONE;
        }

        int add(int a, int b, int c, int d, int e) {
            if (rows >= most) {
                return NONE;
            }
            int first = WIDTH * rows;
            setAt(cells, first, a);
            setAt(cells, first + 1, b);
            setAt(cells, first + 2, c);
            setAt(cells, first + 3, d);
            setAt(cells, first + 4, e);
            rows++;
            return rows - 1;
        }

        void dropTo(int size) {
            if (size >= 0 && size < rows) {
                rows = size;
            }
        }
    }

    /** What is joined and what hangs at the far ends, by the numbers there. */
    private static final class Layout {
        private final int[] onward;
        private final int[] backward;
        private final int[] hung;
        private final int[] home;

        Layout() {
            onward = new int[SITES];
            backward = new int[SITES];
            hung = new int[SITES];
            home = new int[HOUSES];
            Arrays.fill(onward, NONE);
            Arrays.fill(backward, NONE);
            Arrays.fill(hung, NONE);
            Arrays.fill(home, NONE);
        }

        void clear() {
            Arrays.fill(onward, NONE);
            Arrays.fill(backward, NONE);
            Arrays.fill(hung, NONE);
            Arrays.fill(home, NONE);
        }

        void copy(Layout other) {
            System.arraycopy(other.onward, 0, onward, 0, SITES);
            System.arraycopy(other.backward, 0, backward, 0, SITES);
            System.arraycopy(other.hung, 0, hung, 0, SITES);
            System.arraycopy(other.home, 0, home, 0, HOUSES);
        }

        void join(int farSite, int nearSite) {
            setAt(backward, valueAt(onward, farSite), NONE);
            setAt(onward, valueAt(backward, nearSite), NONE);
            setAt(onward, farSite, nearSite);
            setAt(backward, nearSite, farSite);
        }

        void hang(int farSite, int house) {
            setAt(home, valueAt(hung, farSite), NONE);
            setAt(hung, valueAt(home, house), NONE);
            setAt(hung, farSite, house);
            setAt(home, house, farSite);
        }

        void work(int kind, int farSite, int what) {
            if (kind == JOINT_SLIP) {
                join(farSite, what);
            } else {
                hang(farSite, what);
            }
        }
    }

    /** One PLAN: its TEXT, and all that is told of it by hand. */
    private static final class Plan {
        private static final int FROM = 0;
        private static final int TO = 1;
        private static final int PAIRS = 2;
        private static final int LENGTH = 3;

        private int boxes;
        private final Ledger cables;
        private final int[] comes;
        private final int[] firstFeeder;
        private final Layout text;
        private final Layout all;
        // kind, SITE of the far end, SITE of the near end or HOUSE
        private final Ledger slips;
        // kind, CABLE or SLIP, PAIR, other PAIR, metres
        private final Ledger troubles;
        // kind, SITE, end, CABLE and end where one listens or measures
        private final Ledger tests;
        // TEST, 1 if WET, told
        private final Ledger readings;
        private final int[] wanted;
        private final Sheet sheet;

        Plan() {
            boxes = 0;
            cables = new Ledger(MOST_CABLES);
            comes = new int[MOST_BOXES];
            firstFeeder = new int[MOST_CABLES];
            text = new Layout();
            all = new Layout();
            slips = new Ledger(MOST_SLIPS);
            troubles = new Ledger(MOST_TROUBLES);
            tests = new Ledger(MOST_TESTS);
            readings = new Ledger(MOST_READINGS);
            wanted = new int[HOUSES];
            sheet = new Sheet();
            Arrays.fill(comes, NONE);
            Arrays.fill(wanted, NONE);
        }

        void clearText() {
            boxes = 0;
            cables.dropTo(0);
            Arrays.fill(comes, NONE);
            text.clear();
        }

        void addCable(int from, int to, int pairs, int length) {
            setAt(comes, to, cables.add(from, to, pairs, length, 0));
        }

        void settleText() {
            all.copy(text);
            int feeders = 0;
            for (int cable = 0; cable < cables.size(); cable++) {
                setAt(firstFeeder, cable, feeders);
                feeders += cables.at(cable, FROM) == 0 ? pairsOf(cable) : 0;
            }
        }

        boolean hasBox(int box) {
            return box >= 0 && box < boxes;
        }

        boolean hasCable(int cable) {
            return cables.has(cable);
        }

        boolean hasPair(int cable, int pair) {
            return cables.has(cable) && pair >= 0 && pair < pairsOf(cable);
        }

        boolean hasWorld(int world) {
            return world >= 0 && world < worlds();
        }

        int worlds() {
            return 1 << troubles.size();
        }

        int pairsOf(int cable) {
            return cables.at(cable, PAIRS);
        }

        int lengthOf(int cable) {
            return cables.at(cable, LENGTH);
        }

        int boxAt(int cable, int end) {
            return cables.at(cable, end == NEAR ? FROM : TO);
        }

        int cableTo(int box) {
            return hasBox(box) ? valueAt(comes, box) : NONE;
        }

        boolean meet(int before, int after) {
            return cables.has(before) && cables.has(after) && boxAt(before, FAR) == boxAt(after, NEAR);
        }

        int addSlip(int kind, int farSite, int what) {
            int number = slips.add(kind, farSite, what, 0, 0);
            if (number != NONE) {
                all.work(kind, farSite, what);
                sheet.forgetAll();
            }
            return number;
        }

        boolean canHaveTrouble(int kind, int x, int p, int q, int d) {
            boolean two = hasPair(x, p) && hasPair(x, q) && p != q;
            boolean within = hasPair(x, p) && d >= 0 && d <= lengthOf(x);
            switch (kind) {
                case SWAP:
                    return two;
                case BREAK:
                    return within;
                case TOUCH:
                    return two && within;
                case UNDONE:
                    return slips.has(x);
                default:
                    return false;
            }
        }

        int addTrouble(int kind, int x, int p, int q, int d) {
            int number = troubles.add(kind, x, p, q, d);
            if (number != NONE) {
                sheet.forgetAll();
            }
            return number;
        }

        int addReading(int test, boolean wet, int told) {
            if (readings.add(test, wet ? 1 : 0, told, 0, 0) == NONE) {
                return NONE;
            }
            sheet.forgetFits();
            return readings.size();
        }

        int dropReading() {
            if (readings.size() == 0) {
                return NONE;
            }
            readings.dropTo(readings.size() - 1);
            sheet.forgetFits();
            return readings.size();
        }

        int boxOfTest(int test) {
            return boxAt(tests.at(test, 3), tests.at(test, 4));
        }

        // A CABLE's BOX A lies below its B, so the higher BOX of two is the one to climb from.
        int way(int one, int other) {
            if (!hasBox(one) || !hasBox(other)) {
                return NONE;
            }
            int low = Math.min(one, other);
            int high = Math.max(one, other);
            int metres = 0;
            for (int leg = 0; leg < 2 * MOST_BOXES && low != high; leg++) {
                int cable = cableTo(high);
                if (cable == NONE) {
                    return NONE;
                }
                metres += lengthOf(cable);
                int from = boxAt(cable, NEAR);
                high = Math.max(from, low);
                low = Math.min(from, low);
            }
            return metres;
        }

        boolean setWanted(int house, int pair) {
            int site = valueAt(all.home, house);
            if (site == NONE) {
                return false;
            }
            int cable = cableOf(site);
            if (pair != NONE && (!hasPair(cable, pair) || isWantedByOther(cable, pair, house))) {
                return false;
            }
            setAt(wanted, house, pair);
            return true;
        }

        private boolean isWantedByOther(int cable, int pair, int house) {
            for (int other = 0; other < HOUSES; other++) {
                int site = valueAt(all.home, other);
                boolean onCable = site != NONE && cableOf(site) == cable;
                if (other != house && onCable && valueAt(wanted, other) == pair) {
                    return true;
                }
            }
            return false;
        }
    }

    /** Reads the TAPE into a PLAN, up to the FAULT if there is one. */
    private static final class TextReader {
        private final Tape tape;
        private int at;
        private int wrong;

        TextReader(Tape tape) {
            this.tape = tape;
            at = 0;
            wrong = NONE;
        }

        int readInto(Plan draft) {
            if (draft == null) {
                return 0;
            }
            draft.clearText();
            at = 0;
            wrong = NONE;
            readBoxes(draft);
            for (int told = 0; told < MOST_BYTES && wrong == NONE && comesMore(); told++) {
                readStatement(draft);
            }
            if (wrong == NONE) {
                draft.settleText();
            }
            return wrong;
        }

        private void readBoxes(Plan its) {
            skipBlanks();
            if (tape.byteAt(at) != 'b') {
                fail(at);
                return;
            }
            at++;
            its.boxes = number(2, MOST_BOXES);
        }

        private boolean comesMore() {
            skipBlanks();
            return at < tape.size();
        }

        private void readStatement(Plan its) {
            if (tape.byteAt(at) != ';') {
                fail(at);
                return;
            }
            at++;
            skipBlanks();
            int letter = tape.byteAt(at);
            if (letter != 'c' && letter != 'j' && letter != 'h') {
                fail(at);
                return;
            }
            at++;
            if (letter == 'c') {
                readCable(its);
            } else if (letter == 'j') {
                readJoint(its);
            } else {
                readHouse(its);
            }
        }

        private void readCable(Plan its) {
            int from = number(0, its.boxes - 1);
            int to = number(0, its.boxes - 1);
            if (to <= from || its.cableTo(to) != NONE) {
                fail(at - 1);
            }
            int pairs = number(1, MOST_PAIRS);
            int length = number(1, MOST_METRES);
            if (wrong == NONE) {
                its.addCable(from, to, pairs, length);
            }
        }

        private void readJoint(Plan its) {
            int x = number(0, its.cables.size() - 1);
            int p = number(0, its.pairsOf(x) - 1);
            int y = number(0, its.cables.size() - 1);
            if (!its.meet(x, y)) {
                fail(at - 1);
            }
            int q = number(0, its.pairsOf(y) - 1);
            if (wrong == NONE) {
                its.text.join(siteOf(x, p), siteOf(y, q));
            }
        }

        private void readHouse(Plan its) {
            int x = number(0, its.cables.size() - 1);
            int p = number(0, its.pairsOf(x) - 1);
            int house = number(0, HOUSES - 1);
            if (wrong == NONE) {
                its.text.hang(siteOf(x, p), house);
            }
        }

        // A third digit needs no look here: neither a blank nor a ; nor the end, it is wrong for what follows.
        private int number(int low, int high) {
            if (wrong != NONE) {
                return NONE;
            }
            if (tape.byteAt(at) == ' ') {
                skipBlanks();
            } else {
                fail(at);
            }
            int value = digitAt(at);
            if (value == NONE) {
                fail(at);
                return NONE;
            }
            at++;
            int second = digitAt(at);
            if (second != NONE) {
                value = 10 * value + second;
                at++;
            }
            if (value < low || value > high) {
                fail(at - 1);
            }
            return value;
        }

        private int digitAt(int index) {
            int sign = tape.byteAt(index);
            return sign >= '0' && sign <= '9' ? sign - '0' : NONE;
        }

        private void skipBlanks() {
            for (int steps = 0; steps < MOST_BYTES && tape.byteAt(at) == ' '; steps++) {
                at++;
            }
        }

        // The first wrong byte counts: what is looked at behind it is not heard.
        private void fail(int index) {
            if (wrong == NONE) {
                wrong = index;
            }
        }
    }

    /** What each TEST would tell in each WORLD, and which WORLDS fit: kept until something told makes it old. */
    private static final class Sheet {
        private final int[][] columns;
        private final int[] fits;
        private int ready;
        private int fitCount;
        private boolean fresh;

        Sheet() {
            columns = new int[2 * MOST_TESTS][];
            fits = new int[WORLDS];
            ready = 0;
            fitCount = 0;
            fresh = false;
        }

        void forgetAll() {
            ready = 0;
            fresh = false;
        }

        void forgetFits() {
            fresh = false;
        }

        static int columnOf(int test, boolean wet) {
            return 2 * test + (wet ? 1 : 0);
        }

        void write(int column, int world, int tells) {
            if (column < 0 || column >= columns.length) {
                return;
            }
            if (columns[column] == null) {
                columns[column] = new int[WORLDS];
            }
            setAt(columns[column], world, tells);
        }

        int written(int column, int world) {
            if (column < 0 || column >= columns.length || columns[column] == null) {
                return NONE;
            }
            return valueAt(columns[column], world);
        }

        void addFit(int world) {
            if (fitCount < fits.length) {
                setAt(fits, fitCount, world);
                fitCount++;
            }
        }

        int fitAt(int i) {
            return i < fitCount ? valueAt(fits, i) : NONE;
        }

        int smallest() {
            int best = fitAt(0);
            for (int i = 1; i < fitCount; i++) {
                if (comesBefore(fitAt(i), best)) {
                    best = fitAt(i);
                }
            }
            return best;
        }

        private static boolean comesBefore(int one, int other) {
            int difference = Integer.bitCount(one) - Integer.bitCount(other);
            if (difference != 0) {
                return difference < 0;
            }
            int differing = one ^ other;
            int lowest = differing & -differing;
            return (one & lowest) != 0;
        }

        int inAll() {
            int common = fitAt(0);
            for (int i = 1; i < fitCount; i++) {
                common &= fitAt(i);
            }
            return common;
        }

        int inSome() {
            int any = fitAt(0);
            for (int i = 1; i < fitCount; i++) {
                any |= fitAt(i);
            }
            return any;
        }
    }

    /** The wires of a PLAN as they lie in one WORLD. A wire is named by the SITE of its near end. */
    private static final class Wires {
        private final Layout without;
        private final int[] comesOut;
        private final int[] goesIn;
        private final int[] cuts;
        private final int[] breakWires;
        private final int[] breakMetres;
        private final int[] touchOnes;
        private final int[] touchOthers;
        private final int[] touchMetres;
        private Plan plan;
        private Layout layout;
        private int breaks;
        private int touches;

        Wires() {
            without = new Layout();
            comesOut = new int[SITES];
            goesIn = new int[SITES];
            cuts = new int[SITES];
            breakWires = new int[MOST_TROUBLES];
            breakMetres = new int[MOST_TROUBLES];
            touchOnes = new int[MOST_TROUBLES];
            touchOthers = new int[MOST_TROUBLES];
            touchMetres = new int[MOST_TROUBLES];
            plan = new Plan();
            layout = without;
            breaks = 0;
            touches = 0;
        }

        void lay(Plan its, int world) {
            plan = its;
            breaks = 0;
            touches = 0;
            Arrays.fill(cuts, 0);
            for (int site = 0; site < comesOut.length && site < goesIn.length; site++) {
                comesOut[site] = site;
                goesIn[site] = site;
            }
            int undone = 0;
            for (int trouble = 0; trouble < its.troubles.size(); trouble++) {
                if ((world >> trouble & 1) != 0) {
                    undone |= befall(its.troubles, trouble);
                }
            }
            layout = undone == 0 ? its.all : layoutWithout(its, undone);
        }

        // Answers the SLIP that was never done as a bit, since what it leaves of the layout hangs on the others.
        private int befall(Ledger troubles, int trouble) {
            int x = troubles.at(trouble, 1);
            int one = siteOf(x, troubles.at(trouble, 2));
            int other = siteOf(x, troubles.at(trouble, 3));
            int metres = troubles.at(trouble, 4);
            switch (troubles.at(trouble, 0)) {
                case SWAP:
                    cross(one, other);
                    return 0;
                case BREAK:
                    cut(one, metres);
                    return 0;
                case TOUCH:
                    bringTogether(one, other, metres);
                    return 0;
                default:
                    return 1 << x;
            }
        }

        private Layout layoutWithout(Plan its, int undone) {
            without.copy(its.text);
            for (int slip = 0; slip < its.slips.size(); slip++) {
                if ((undone >> slip & 1) == 0) {
                    without.work(its.slips.at(slip, 0), its.slips.at(slip, 1), its.slips.at(slip, 2));
                }
            }
            return without;
        }

        private void cross(int oneFar, int otherFar) {
            int oneWire = valueAt(goesIn, oneFar);
            int otherWire = valueAt(goesIn, otherFar);
            setAt(goesIn, oneFar, otherWire);
            setAt(goesIn, otherFar, oneWire);
            setAt(comesOut, oneWire, otherFar);
            setAt(comesOut, otherWire, oneFar);
        }

        void cut(int wire, int metres) {
            if (breaks < breakWires.length) {
                setAt(breakWires, breaks, wire);
                setAt(breakMetres, breaks, metres);
                setAt(cuts, wire, valueAt(cuts, wire) + 1);
                breaks++;
            }
        }

        private void bringTogether(int one, int other, int metres) {
            if (touches < touchOnes.length) {
                setAt(touchOnes, touches, one);
                setAt(touchOthers, touches, other);
                setAt(touchMetres, touches, metres);
                touches++;
            }
        }

        int homeOf(int house) {
            return valueAt(layout.home, house);
        }

        int wireAt(int site, int end) {
            return end == NEAR ? site : valueAt(goesIn, site);
        }

        /** PIECES of a wire are numbered from its near end on, with a BREAK between one and the next. */
        int pieceAt(int wire, int metres) {
            int piece = 0;
            for (int i = 0; i < breaks; i++) {
                if (valueAt(breakWires, i) == wire && valueAt(breakMetres, i) <= metres) {
                    piece++;
                }
            }
            return piece;
        }

        int pieceAtEnd(int wire, int end) {
            return end == NEAR ? 0 : valueAt(cuts, wire);
        }

        int jointPairs(int cable) {
            return pairsWith(layout.onward, cable);
        }

        int hungPairs(int cable) {
            return pairsWith(layout.hung, cable);
        }

        private int pairsWith(int[] row, int cable) {
            int pairs = 0;
            for (int pair = 0; pair < plan.pairsOf(cable); pair++) {
                if (valueAt(row, siteOf(cable, pair)) != NONE) {
                    pairs |= 1 << pair;
                }
            }
            return pairs;
        }

        int measure(boolean wet, int site, int end) {
            int wire = wireAt(site, end);
            int gone = 0;
            for (int leg = 0; leg < MOST_CABLES; leg++) {
                int length = plan.lengthOf(cableOf(wire));
                int touch = wet ? toFirstTouch(wire, end, length) : NONE;
                int stop = toFirstBreak(wire, end, length);
                // At the same metre the TOUCH lies behind the BREAK: one from the far end meets it first.
                if (touch != NONE && (stop == NONE || touch < stop || touch == stop && end == FAR)) {
                    return 4 * (gone + touch) + 2;
                }
                if (stop != NONE) {
                    return 4 * (gone + stop);
                }
                gone += length;
                int on = wireBehind(wire, end);
                if (on == NONE) {
                    return 4 * gone + (end == NEAR && hangsBehind(wire) ? 1 : 0);
                }
                wire = on;
            }
            return 4 * gone;
        }

        int wireBehind(int wire, int end) {
            if (end == NEAR) {
                return valueAt(layout.onward, valueAt(comesOut, wire));
            }
            return valueAt(goesIn, valueAt(layout.backward, wire));
        }

        private boolean hangsBehind(int wire) {
            return valueAt(layout.hung, valueAt(comesOut, wire)) != NONE;
        }

        private int toFirstBreak(int wire, int end, int length) {
            int first = NONE;
            for (int i = 0; i < breaks; i++) {
                if (valueAt(breakWires, i) == wire) {
                    int metres = valueAt(breakMetres, i);
                    first = nearer(first, end == NEAR ? metres : length - metres);
                }
            }
            return first;
        }

        private int toFirstTouch(int wire, int end, int length) {
            int first = NONE;
            for (int i = 0; i < touches; i++) {
                if (valueAt(touchOnes, i) == wire || valueAt(touchOthers, i) == wire) {
                    int metres = valueAt(touchMetres, i);
                    first = nearer(first, end == NEAR ? metres : length - metres);
                }
            }
            return first;
        }

        private static int nearer(int one, int other) {
            return one == NONE || other < one ? other : one;
        }
    }

    /** A TONE and all the PIECES and ends to which it comes. */
    private static final class Tone {
        private final int[] reached;
        private final int[] waiting;
        private final int[] atNear;
        private final int[] atFar;
        private int waits;

        Tone() {
            reached = new int[SITES];
            waiting = new int[SITES * MOST_PIECES];
            atNear = new int[MOST_CABLES];
            atFar = new int[MOST_CABLES];
            waits = 0;
        }

        void send(Wires wires, boolean wet, int site, int end) {
            Arrays.fill(reached, 0);
            Arrays.fill(atNear, 0);
            Arrays.fill(atFar, 0);
            waits = 0;
            int start = wires.wireAt(site, end);
            come(start, wires.pieceAtEnd(start, end));
            for (int steps = 0; steps < SITES * MOST_PIECES && waits > 0; steps++) {
                waits--;
                int one = valueAt(waiting, waits);
                int wire = one >> 4;
                int piece = one & 15;
                goAlong(wires, wire, piece);
                if (wet) {
                    goAcross(wires, wire, piece);
                }
            }
        }

        private void come(int wire, int piece) {
            int before = valueAt(reached, wire);
            if (wire >= 0 && wire < SITES && (before >> piece & 1) == 0 && waits < waiting.length) {
                setAt(reached, wire, before | 1 << piece);
                setAt(waiting, waits, wire << 4 | piece);
                waits++;
            }
        }

        private void goAlong(Wires wires, int wire, int piece) {
            int cable = cableOf(wire);
            if (piece == 0) {
                setAt(atNear, cable, comesTo(cable, NEAR) | 1 << pairOf(wire));
                int before = wires.wireBehind(wire, FAR);
                come(before, wires.pieceAtEnd(before, FAR));
            }
            if (piece == wires.pieceAtEnd(wire, FAR)) {
                int out = valueAt(wires.comesOut, wire);
                setAt(atFar, cable, comesTo(cable, FAR) | 1 << pairOf(out));
                come(wires.wireBehind(wire, NEAR), 0);
            }
        }

        private void goAcross(Wires wires, int wire, int piece) {
            for (int i = 0; i < wires.touches; i++) {
                int one = valueAt(wires.touchOnes, i);
                int other = valueAt(wires.touchOthers, i);
                int metres = valueAt(wires.touchMetres, i);
                if (one == wire && wires.pieceAt(one, metres) == piece) {
                    come(other, wires.pieceAt(other, metres));
                }
                if (other == wire && wires.pieceAt(other, metres) == piece) {
                    come(one, wires.pieceAt(one, metres));
                }
            }
        }

        int comesTo(int cable, int end) {
            return valueAt(end == NEAR ? atNear : atFar, cable);
        }

        boolean comesToHome(int site) {
            return site != NONE && (comesTo(cableOf(site), FAR) >> pairOf(site) & 1) != 0;
        }

        /** A TONE comes back where it goes: PAIRS of the EXCHANGE that it reaches are those that feed its start. */
        long feeders(Plan plan) {
            long bits = 0;
            for (int cable = 0; cable < plan.cables.size(); cable++) {
                if (plan.boxAt(cable, NEAR) == 0) {
                    bits |= (long) comesTo(cable, NEAR) << valueAt(plan.firstFeeder, cable);
                }
            }
            return bits;
        }
    }

    /** Where one WORLD of one PLAN is laid out at a time, and questions are asked of it. */
    private static final class Bench {
        private final Wires wires;
        private final Tone tone;
        private final long[] fedBy;
        private final int[] tally;
        private int largest;
        private int kinds;

        Bench() {
            wires = new Wires();
            tone = new Tone();
            fedBy = new long[HOUSES];
            tally = new int[TELLINGS];
            largest = 0;
            kinds = 0;
        }

        long feedersOf(int farSite, boolean wet) {
            tone.send(wires, wet, farSite, FAR);
            return tone.feeders(wires.plan);
        }

        int servedHouses(boolean wet) {
            for (int house = 0; house < fedBy.length; house++) {
                int site = wires.homeOf(house);
                fedBy[house] = site == NONE ? 0 : feedersOf(site, wet);
            }
            int served = 0;
            for (int house = 0; house < fedBy.length; house++) {
                if (Long.bitCount(fedBy[house]) == 1 && !isShared(house)) {
                    served |= 1 << house;
                }
            }
            return served;
        }

        private boolean isShared(int house) {
            for (int other = 0; other < fedBy.length; other++) {
                if (house >= 0 && house < fedBy.length && other != house && (fedBy[other] & fedBy[house]) != 0) {
                    return true;
                }
            }
            return false;
        }

        int housesHearing(int house, boolean wet) {
            int start = wires.homeOf(house);
            if (start == NONE) {
                return NONE;
            }
            tone.send(wires, wet, start, FAR);
            int hearing = 0;
            for (int other = 0; other < HOUSES; other++) {
                if (other != house && tone.comesToHome(wires.homeOf(other))) {
                    hearing |= 1 << other;
                }
            }
            return hearing;
        }

        /** PAIRS at a far end that are fed and go on by no JOINT, HOUSES or not. */
        int openPairs(int cable) {
            int open = 0;
            for (int pair = 0; pair < wires.plan.pairsOf(cable); pair++) {
                if (feedersOf(siteOf(cable, pair), false) != 0) {
                    open |= 1 << pair;
                }
            }
            return open & ~wires.jointPairs(cable);
        }

        int tell(Plan plan, int test, boolean wet) {
            int site = plan.tests.at(test, 1);
            int end = plan.tests.at(test, 2);
            if (plan.tests.at(test, 0) == METRES_TEST) {
                return wires.measure(wet, site, end);
            }
            tone.send(wires, wet, site, end);
            return tone.comesTo(plan.tests.at(test, 3), plan.tests.at(test, 4));
        }

        void findFits(Plan plan) {
            Sheet sheet = plan.sheet;
            if (sheet.fresh) {
                return;
            }
            fill(plan, columnsRead(plan));
            sheet.fitCount = 0;
            for (int world = 0; world < plan.worlds(); world++) {
                if (fits(plan, world)) {
                    sheet.addFit(world);
                }
            }
            sheet.fresh = true;
        }

        private int columnsRead(Plan plan) {
            int columns = 0;
            for (int reading = 0; reading < plan.readings.size(); reading++) {
                columns |= 1 << columnOfReading(plan, reading);
            }
            return columns;
        }

        private int columnOfReading(Plan plan, int reading) {
            return Sheet.columnOf(plan.readings.at(reading, 0), plan.readings.at(reading, 1) == 1);
        }

        private boolean fits(Plan plan, int world) {
            for (int reading = 0; reading < plan.readings.size(); reading++) {
                int tells = plan.sheet.written(columnOfReading(plan, reading), world);
                if (tells != plan.readings.at(reading, 2)) {
                    return false;
                }
            }
            return true;
        }

        int columnsOfAll(Plan plan, boolean wet) {
            int columns = 0;
            for (int test = 0; test < plan.tests.size(); test++) {
                columns |= 1 << Sheet.columnOf(test, wet);
            }
            return columns;
        }

        /** Writes the columns that are not ready; apart from what reads them, which keeps calls shallow. */
        void fill(Plan plan, int wantedColumns) {
            int missing = wantedColumns & ~plan.sheet.ready;
            if (missing == 0) {
                return;
            }
            for (int world = 0; world < plan.worlds(); world++) {
                wires.lay(plan, world);
                for (int column = 0; column < 2 * MOST_TESTS; column++) {
                    if ((missing >> column & 1) != 0) {
                        plan.sheet.write(column, world, tell(plan, column >> 1, (column & 1) == 1));
                    }
                }
            }
            plan.sheet.ready |= missing;
        }

        void partFits(Plan plan, int test, boolean wet) {
            int column = Sheet.columnOf(test, wet);
            largest = 0;
            kinds = 0;
            for (int i = 0; i < plan.sheet.fitCount; i++) {
                int tells = plan.sheet.written(column, plan.sheet.fitAt(i));
                int same = valueAt(tally, tells) + 1;
                setAt(tally, tells, same);
                kinds += same == 1 ? 1 : 0;
                largest = Math.max(largest, same);
            }
            for (int i = 0; i < plan.sheet.fitCount; i++) {
                setAt(tally, plan.sheet.written(column, plan.sheet.fitAt(i)), 0);
            }
        }

        int bestTest(Plan plan, boolean wet, int box, int far) {
            int best = NONE;
            int bestLargest = 0;
            int bestWay = 0;
            for (int test = 0; test < plan.tests.size(); test++) {
                int way = plan.way(box, plan.boxOfTest(test));
                if (way == NONE || way > far) {
                    continue;
                }
                partFits(plan, test, wet);
                if (best == NONE || largest < bestLargest || largest == bestLargest && way < bestWay) {
                    best = test;
                    bestLargest = largest;
                    bestWay = way;
                }
            }
            return best;
        }

        int breakAt(Plan plan, int wire, int off, boolean greatest) {
            int found = NONE;
            for (int metres = 0; metres <= plan.lengthOf(cableOf(wire)); metres++) {
                if ((found == NONE || greatest) && explains(plan, wire, metres, off)) {
                    found = metres;
                }
            }
            return found;
        }

        private boolean explains(Plan plan, int wire, int metres, int off) {
            wires.lay(plan, 0);
            wires.cut(wire, metres);
            for (int reading = 0; reading < plan.readings.size(); reading++) {
                int test = plan.readings.at(reading, 0);
                boolean counts = plan.tests.at(test, 0) == METRES_TEST && plan.readings.at(reading, 1) == 0;
                if (counts && Math.abs(plan.readings.at(reading, 2) / 4 - tell(plan, test, false) / 4) > off) {
                    return false;
                }
            }
            return true;
        }
    }

    /** MOVES of HOUSES at the far end of one CABLE. */
    private static final class Mover {
        private static final int MOST_MOVES = 2 * HOUSES;
        private final int[] pairs;
        private final int[] wants;
        private final int[] list;
        private int open;
        private int steppedAside;
        private int made;

        Mover() {
            pairs = new int[HOUSES];
            wants = new int[HOUSES];
            list = new int[MOST_MOVES];
            open = 0;
            steppedAside = 0;
            made = 0;
        }

        int moveAt(int i) {
            return i < made ? valueAt(list, i) : NONE;
        }

        // A HOUSE steps aside once and stays where it is wanted: two moves of each are the most.
        void work(Wires wires, int cable, int openPairs) {
            open = openPairs;
            steppedAside = 0;
            made = 0;
            for (int house = 0; house < HOUSES; house++) {
                int site = wires.homeOf(house);
                setAt(pairs, house, site != NONE && cableOf(site) == cable ? pairOf(site) : NONE);
                setAt(wants, house, valueAt(wires.plan.wanted, house));
            }
            for (int steps = 0; steps < MOST_MOVES; steps++) {
                if (!moveHome() && !moveAside()) {
                    return;
                }
            }
        }

        private boolean moveHome() {
            int free = freePairs();
            for (int house = 0; house < HOUSES; house++) {
                int goal = valueAt(wants, house);
                if (isAstray(house) && (free >> goal & 1) != 0) {
                    move(house, goal);
                    return true;
                }
            }
            return false;
        }

        private boolean moveAside() {
            int free = freePairs();
            for (int house = 0; house < HOUSES && free != 0; house++) {
                boolean stepped = (steppedAside >> house & 1) != 0;
                if (!stepped && isAstray(house) && isAstray(houseOn(valueAt(wants, house)))) {
                    steppedAside |= 1 << house;
                    move(house, lowestOf(free));
                    return true;
                }
            }
            return false;
        }

        private static int lowestOf(int set) {
            for (int pair = 0; pair < MOST_PAIRS; pair++) {
                if ((set >> pair & 1) != 0) {
                    return pair;
                }
            }
            return NONE;
        }

        private boolean isAstray(int house) {
            int pair = valueAt(pairs, house);
            int goal = valueAt(wants, house);
            return pair != NONE && goal != NONE && pair != goal;
        }

        private int houseOn(int pair) {
            for (int house = 0; house < HOUSES; house++) {
                if (pair != NONE && valueAt(pairs, house) == pair) {
                    return house;
                }
            }
            return NONE;
        }

        private int freePairs() {
            int free = open;
            for (int house = 0; house < HOUSES; house++) {
                int pair = valueAt(pairs, house);
                if (pair != NONE) {
                    free &= ~(1 << pair);
                }
            }
            return free;
        }

        private void move(int house, int pair) {
            if (made < list.length) {
                setAt(list, made, 8 * house + pair);
                made++;
            }
            setAt(pairs, house, pair);
        }
    }
}
