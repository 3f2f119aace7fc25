import java.util.ArrayList;
import java.util.HashMap;
import java.util.List;
import java.util.Map;
import java.util.NoSuchElementException;
import java.util.TreeMap;

/**
 * The document told a second time, slowly: every wire is a chain of points, one a metre, and what a
 * tone reaches is found by walking from point to point. It shares no code with the class under test.
 */
final class Oracle {
    static final int NONE = -1;

    private static final class Cable {
        int a;
        int b;
        int k;
        int l;
    }

    private static final class Town {
        int boxes;
        final List<Cable> cables = new ArrayList<>();
        /** Statements j and h, and slips, as {kind, x, p, y, q}: 0 a joint, 1 a house. */
        final List<int[]> text = new ArrayList<>();
        final List<int[]> slips = new ArrayList<>();
        final List<int[]> troubles = new ArrayList<>();
        final List<int[]> tests = new ArrayList<>();
        final List<int[]> readings = new ArrayList<>();
        final Map<Integer, Integer> wants = new HashMap<>();
    }

    /** What is joined and hung, as maps from "far end" to what is there. */
    private static final class Layout {
        final Map<Integer, Integer> joints = new HashMap<>();
        final Map<Integer, Integer> houses = new TreeMap<>();
    }

    private final StringBuilder tape = new StringBuilder();
    private final List<Town> towns = new ArrayList<>();

    int feed(int a, int b, int c, int d, int e) {
        StringBuilder more = new StringBuilder();
        for (int number : new int[] {a, b, c, d, e}) {
            for (int i = 3; i >= 0; i--) {
                char sign = (char) (number >> 8 * i & 0xff);
                if (sign != 0) {
                    more.append(sign);
                }
            }
        }
        if (tape.length() + more.length() > 300) {
            return NONE;
        }
        tape.append(more);
        return tape.length();
    }

    boolean end(int n) {
        if (n < 0 || n > tape.length()) {
            return false;
        }
        tape.setLength(n);
        return true;
    }

    int fault() {
        return scan(new Town());
    }

    int plan() {
        Town town = new Town();
        if (scan(town) != NONE || towns.size() == 6) {
            return NONE;
        }
        towns.add(town);
        tape.setLength(0);
        return towns.size() - 1;
    }

    /** A walk over the bytes with a state: 0 ahead of a letter, 1 a blank is due, 2 ahead of a number, 3 in one, 4 behind a statement. */
    private int scan(Town town) {
        int state = 0;
        char letter = 0;
        boolean first = true;
        List<Integer> numbers = new ArrayList<>();
        int i = 0;
        while (i < tape.length()) {
            char sign = tape.charAt(i);
            boolean digit = sign >= '0' && sign <= '9';
            if (state == 0) {
                if (sign != ' ') {
                    boolean fine = first ? sign == 'b' : "cjh".indexOf(sign) >= 0;
                    if (!fine) {
                        return i;
                    }
                    first = false;
                    letter = sign;
                    numbers.clear();
                    state = 1;
                }
                i++;
            } else if (state == 1) {
                if (sign != ' ') {
                    return i;
                }
                state = 2;
                i++;
            } else if (state == 2) {
                if (sign == ' ') {
                    i++;
                    continue;
                }
                if (!digit) {
                    return i;
                }
                int last = i;
                if (i + 1 < tape.length() && Character.isDigit(tape.charAt(i + 1)) && tape.charAt(i + 1) < 128) {
                    last = i + 1;
                }
                numbers.add(Integer.parseInt(tape.substring(i, last + 1)));
                if (!numberFits(town, letter, numbers)) {
                    return last;
                }
                i = last + 1;
                boolean whole = numbers.size() == (letter == 'b' ? 1 : letter == 'h' ? 3 : 4);
                if (whole) {
                    tell(town, letter, numbers);
                }
                state = whole ? 4 : 1;
            } else {
                if (sign == ';') {
                    state = 0;
                } else if (sign != ' ') {
                    return i;
                }
                i++;
            }
        }
        return state == 4 ? NONE : tape.length();
    }

    private static boolean numberFits(Town town, char letter, List<Integer> numbers) {
        int which = numbers.size() - 1;
        int n = numbers.get(which);
        if (letter == 'b') {
            return n >= 2 && n <= 8;
        }
        if (letter == 'c') {
            if (which == 0) {
                return n < town.boxes;
            }
            if (which == 1) {
                for (Cable c : town.cables) {
                    if (c.b == n) {
                        return false;
                    }
                }
                return n < town.boxes && n > numbers.get(0);
            }
            return which == 2 ? n >= 1 && n <= 6 : n >= 1 && n <= 99;
        }
        if (which == 0) {
            return n < town.cables.size();
        }
        Cable x = town.cables.get(numbers.get(0));
        if (which == 1) {
            return n < x.k;
        }
        if (letter == 'h') {
            return n < 10;
        }
        return which == 2
            ? n < town.cables.size() && town.cables.get(n).a == x.b
            : n < town.cables.get(numbers.get(2)).k;
    }

    private static void tell(Town town, char letter, List<Integer> n) {
        if (letter == 'b') {
            town.boxes = n.get(0);
        } else if (letter == 'c') {
            Cable c = new Cable();
            c.a = n.get(0);
            c.b = n.get(1);
            c.k = n.get(2);
            c.l = n.get(3);
            town.cables.add(c);
        } else if (letter == 'j') {
            town.text.add(new int[] {0, n.get(0), n.get(1), n.get(2), n.get(3)});
        } else {
            town.text.add(new int[] {1, n.get(0), n.get(1), n.get(2), 0});
        }
    }

    private Town town(int plan) {
        return plan >= 0 && plan < towns.size() ? towns.get(plan) : null;
    }

    private static boolean pair(Town t, int x, int p) {
        return x >= 0 && x < t.cables.size() && p >= 0 && p < t.cables.get(x).k;
    }

    private static boolean oneBit(int n) {
        return n == 0 || n == 1;
    }

    private static boolean world(Town t, int world) {
        return world >= 0 && world < Math.pow(2, t.troubles.size());
    }

    int cable(int plan, int cable, int what) {
        Town t = town(plan);
        if (t == null || cable < 0 || cable >= t.cables.size() || what < 0 || what > 3) {
            throw new NoSuchElementException();
        }
        Cable c = t.cables.get(cable);
        return new int[] {c.a, c.b, c.k, c.l}[what];
    }

    private static Layout layout(Town t, int world) {
        List<int[]> told = new ArrayList<>(t.text);
        for (int s = 0; s < t.slips.size(); s++) {
            boolean done = true;
            for (int f = 0; f < t.troubles.size(); f++) {
                int[] trouble = t.troubles.get(f);
                if ((world >> f) % 2 == 1 && trouble[0] == 3 && trouble[1] == s) {
                    done = false;
                }
            }
            if (done) {
                told.add(t.slips.get(s));
            }
        }
        Layout all = new Layout();
        for (int[] one : told) {
            int from = 8 * one[1] + one[2];
            if (one[0] == 0) {
                int to = 8 * one[3] + one[4];
                all.joints.values().removeIf(v -> v == to);
                all.joints.put(from, to);
            } else {
                all.houses.values().removeIf(v -> v == from);
                all.houses.put(one[3], from);
            }
        }
        return all;
    }

    int joint(int plan, int cable, int pair) {
        Town t = town(plan);
        return t == null || !pair(t, cable, pair) ? NONE : layout(t, 0).joints.getOrDefault(8 * cable + pair, NONE);
    }

    int house(int plan, int house) {
        Town t = town(plan);
        return t == null ? NONE : layout(t, 0).houses.getOrDefault(house, NONE);
    }

    int slip(int plan, int kind, int x, int p, int y, int q) {
        Town t = town(plan);
        if (t == null || kind < 0 || kind > 1 || !pair(t, x, p) || t.slips.size() == 6) {
            return NONE;
        }
        if (kind == 0 && (!pair(t, y, q) || t.cables.get(y).a != t.cables.get(x).b)) {
            return NONE;
        }
        if (kind == 1 && (y < 0 || y > 9)) {
            return NONE;
        }
        t.slips.add(new int[] {kind, x, p, y, q});
        return t.slips.size() - 1;
    }

    int trouble(int plan, int kind, int x, int p, int q, int d) {
        Town t = town(plan);
        if (t == null || t.troubles.size() == 10 || kind < 0 || kind > 3) {
            return NONE;
        }
        if (kind == 3) {
            if (x < 0 || x >= t.slips.size()) {
                return NONE;
            }
        } else {
            if (!pair(t, x, p) || kind != 1 && (!pair(t, x, q) || p == q)) {
                return NONE;
            }
            if (kind != 0 && (d < 0 || d > t.cables.get(x).l)) {
                return NONE;
            }
        }
        t.troubles.add(new int[] {kind, x, p, q, d});
        return t.troubles.size() - 1;
    }

    int troubles(int plan) {
        Town t = town(plan);
        return t == null ? NONE : t.troubles.size();
    }

    /** The town as it is: points "x w i" of each wire; i is -1 for the near end, 0 .. L the metres, L + 1 the far end. */
    private static final class Ground {
        final Town t;
        final Layout all;
        final List<int[]> faults = new ArrayList<>();
        final boolean wet;

        Ground(Town t, int world, boolean wet) {
            this.t = t;
            this.wet = wet;
            all = layout(t, world);
            for (int f = 0; f < t.troubles.size(); f++) {
                if ((world >> f) % 2 == 1) {
                    faults.add(t.troubles.get(f));
                }
            }
        }

        int out(int x, int w) {
            int place = w;
            for (int[] f : faults) {
                if (f[0] == 0 && f[1] == x) {
                    place = place == f[2] ? f[3] : place == f[3] ? f[2] : place;
                }
            }
            return place;
        }

        int in(int x, int far) {
            for (int w = 0; w < t.cables.get(x).k; w++) {
                if (out(x, w) == far) {
                    return w;
                }
            }
            throw new IllegalStateException();
        }

        /** Whether the step from point i to point i + 1 is cut: a break at d lies just ahead of point d. */
        boolean cut(int x, int w, int i) {
            for (int[] f : faults) {
                if (f[0] == 1 && f[1] == x && f[2] == w && f[4] == i + 1) {
                    return true;
                }
            }
            return false;
        }

        List<Integer> touching(int x, int w, int i) {
            List<Integer> others = new ArrayList<>();
            for (int[] f : faults) {
                if (wet && f[0] == 2 && f[1] == x && f[4] == i && (f[2] == w || f[3] == w)) {
                    others.add(f[2] == w ? f[3] : f[2]);
                }
            }
            return others;
        }

        boolean[][][] tone(int x, int p, int end) {
            boolean[][][] come = new boolean[t.cables.size()][6][102];
            List<int[]> todo = new ArrayList<>();
            go(come, todo, x, end == 0 ? p : in(x, p), end == 0 ? -1 : t.cables.get(x).l + 1);
            while (!todo.isEmpty()) {
                int[] at = todo.remove(0);
                int c = at[0];
                int w = at[1];
                int i = at[2];
                int l = t.cables.get(c).l;
                if (i > -1 && !cut(c, w, i - 1)) {
                    go(come, todo, c, w, i - 1);
                }
                if (i < l + 1 && !cut(c, w, i)) {
                    go(come, todo, c, w, i + 1);
                }
                for (int other : touching(c, w, i)) {
                    go(come, todo, c, other, i);
                }
                if (i == -1) {
                    for (Map.Entry<Integer, Integer> j : all.joints.entrySet()) {
                        if (j.getValue() == 8 * c + w) {
                            int before = j.getKey() / 8;
                            go(come, todo, before, in(before, j.getKey() % 8), t.cables.get(before).l + 1);
                        }
                    }
                }
                if (i == l + 1) {
                    Integer on = all.joints.get(8 * c + out(c, w));
                    if (on != null) {
                        go(come, todo, on / 8, on % 8, -1);
                    }
                }
            }
            return come;
        }

        private static void go(boolean[][][] come, List<int[]> todo, int x, int w, int i) {
            if (!come[x][w][i + 1]) {
                come[x][w][i + 1] = true;
                todo.add(new int[] {x, w, i});
            }
        }

        int heardAt(boolean[][][] come, int y, int its) {
            int bits = 0;
            for (int w = 0; w < t.cables.get(y).k; w++) {
                if (its == 0 && come[y][w][0]) {
                    bits |= 1 << w;
                }
                if (its == 1 && come[y][w][t.cables.get(y).l + 2]) {
                    bits |= 1 << out(y, w);
                }
            }
            return bits;
        }

        int metres(int x, int p, int end) {
            int far = 0;
            int c = x;
            int w = end == 0 ? p : in(x, p);
            while (true) {
                int l = t.cables.get(c).l;
                for (int step = 0; step <= l; step++) {
                    int i = end == 0 ? step : l - step;
                    if (end == 0 && cut(c, w, i - 1)) {
                        return 4 * (far + step);
                    }
                    if (!touching(c, w, i).isEmpty()) {
                        return 4 * (far + step) + 2;
                    }
                    if (end == 1 && cut(c, w, i - 1)) {
                        return 4 * (far + step);
                    }
                }
                far += l;
                Integer on = null;
                if (end == 0) {
                    on = all.joints.get(8 * c + out(c, w));
                    if (on == null) {
                        return 4 * far + (all.houses.containsValue(8 * c + out(c, w)) ? 1 : 0);
                    }
                    c = on / 8;
                    w = on % 8;
                } else {
                    for (Map.Entry<Integer, Integer> j : all.joints.entrySet()) {
                        if (j.getValue() == 8 * c + w) {
                            on = j.getKey();
                        }
                    }
                    if (on == null) {
                        return 4 * far;
                    }
                    c = on / 8;
                    w = in(on / 8, on % 8);
                }
            }
        }

        /** From each pair of the exchange a tone of its own, as the document tells it. */
        long fed(int site) {
            long bits = 0;
            int number = 0;
            for (int c = 0; c < t.cables.size(); c++) {
                for (int p = 0; t.cables.get(c).a == 0 && p < t.cables.get(c).k; p++) {
                    if ((heardAt(tone(c, p, 0), site / 8, 1) >> site % 8 & 1) == 1) {
                        bits |= 1L << number;
                    }
                    number++;
                }
            }
            return bits;
        }
    }

    int heard(int plan, int world, boolean wet, int x, int p, int end, int y, int its) {
        Town t = town(plan);
        if (t == null || !world(t, world) || !pair(t, x, p) || !oneBit(end) || !pair(t, y, 0) || !oneBit(its)) {
            return NONE;
        }
        Ground g = new Ground(t, world, wet);
        return g.heardAt(g.tone(x, p, end), y, its);
    }

    int metres(int plan, int world, boolean wet, int x, int p, int end) {
        Town t = town(plan);
        if (t == null || !world(t, world) || !pair(t, x, p) || !oneBit(end)) {
            return NONE;
        }
        return new Ground(t, world, wet).metres(x, p, end);
    }

    long fed(int plan, int world, boolean wet, int house) {
        Town t = town(plan);
        if (t == null || !world(t, world)) {
            return NONE;
        }
        Ground g = new Ground(t, world, wet);
        return g.all.houses.containsKey(house) ? g.fed(g.all.houses.get(house)) : NONE;
    }

    int served(int plan, int world, boolean wet) {
        Town t = town(plan);
        if (t == null || !world(t, world)) {
            return NONE;
        }
        Ground g = new Ground(t, world, wet);
        Map<Integer, Long> fed = new TreeMap<>();
        g.all.houses.forEach((house, site) -> fed.put(house, g.fed(site)));
        int bits = 0;
        for (int house : fed.keySet()) {
            boolean alone = Long.bitCount(fed.get(house)) == 1;
            for (int other : fed.keySet()) {
                alone &= other == house || (fed.get(other) & fed.get(house)) == 0;
            }
            bits |= alone ? 1 << house : 0;
        }
        return bits;
    }

    int neighbours(int plan, int world, boolean wet, int house) {
        Town t = town(plan);
        if (t == null || !world(t, world)) {
            return NONE;
        }
        Ground g = new Ground(t, world, wet);
        Integer site = g.all.houses.get(house);
        if (site == null) {
            return NONE;
        }
        boolean[][][] come = g.tone(site / 8, site % 8, 1);
        int bits = 0;
        for (Map.Entry<Integer, Integer> other : g.all.houses.entrySet()) {
            int there = g.heardAt(come, other.getValue() / 8, 1) >> other.getValue() % 8 & 1;
            bits |= other.getKey() == house ? 0 : there << other.getKey();
        }
        return bits;
    }

    private static int comes(Town t, int box) {
        for (int c = 0; c < t.cables.size(); c++) {
            if (t.cables.get(c).b == box) {
                return c;
            }
        }
        return NONE;
    }

    int spare(int plan, int world, int box) {
        Town t = town(plan);
        if (t == null || !world(t, world) || comes(t, box) == NONE) {
            return NONE;
        }
        Ground g = new Ground(t, world, false);
        int c = comes(t, box);
        int bits = 0;
        for (int p = 0; p < t.cables.get(c).k; p++) {
            int site = 8 * c + p;
            boolean bare = !g.all.joints.containsKey(site) && !g.all.houses.containsValue(site);
            bits |= bare && g.fed(site) != 0 ? 1 << p : 0;
        }
        return bits;
    }

    int test(int plan, int kind, int x, int p, int end, int y, int its) {
        Town t = town(plan);
        if (t == null || t.tests.size() == 12 || !oneBit(kind) || !pair(t, x, p) || !oneBit(end)) {
            return NONE;
        }
        if (kind == 0 && (!pair(t, y, 0) || !oneBit(its))) {
            return NONE;
        }
        t.tests.add(new int[] {kind, x, p, end, y, its});
        return t.tests.size() - 1;
    }

    private static int tell(Town t, int test, int world, boolean wet) {
        int[] one = t.tests.get(test);
        Ground g = new Ground(t, world, wet);
        return one[0] == 1 ? g.metres(one[1], one[2], one[3]) : g.heardAt(g.tone(one[1], one[2], one[3]), one[4], one[5]);
    }

    int tells(int plan, int test, int world, boolean wet) {
        Town t = town(plan);
        if (t == null || !world(t, world) || test < 0 || test >= t.tests.size()) {
            return NONE;
        }
        return tell(t, test, world, wet);
    }

    int read(int plan, int test, boolean wet, int told) {
        Town t = town(plan);
        if (t == null || test < 0 || test >= t.tests.size() || told < 0 || t.readings.size() == 24) {
            return NONE;
        }
        t.readings.add(new int[] {test, wet ? 1 : 0, told});
        return t.readings.size();
    }

    int unread(int plan) {
        Town t = town(plan);
        if (t == null || t.readings.isEmpty()) {
            return NONE;
        }
        t.readings.remove(t.readings.size() - 1);
        return t.readings.size();
    }

    private static List<Integer> fits(Town t) {
        List<Integer> all = new ArrayList<>();
        for (int world = 0; world(t, world); world++) {
            boolean fine = true;
            for (int[] r : t.readings) {
                fine = fine && tell(t, r[0], world, r[1] == 1) == r[2];
            }
            if (fine) {
                all.add(world);
            }
        }
        return all;
    }

    int fitting(int plan, int i) {
        Town t = town(plan);
        if (t == null) {
            return NONE;
        }
        List<Integer> all = fits(t);
        return i == NONE ? all.size() : i < 0 || i >= all.size() ? NONE : all.get(i);
    }

    private static String inOrder(int world) {
        StringBuilder text = new StringBuilder();
        text.append((char) ('0' + Integer.bitCount(world)));
        for (int f = 0; f < 10; f++) {
            if ((world >> f & 1) == 1) {
                text.append((char) ('a' + f));
            }
        }
        return text.toString();
    }

    int fewest(int plan) {
        Town t = town(plan);
        int best = NONE;
        for (int world : t == null ? new ArrayList<Integer>() : fits(t)) {
            if (best == NONE || inOrder(world).compareTo(inOrder(best)) < 0) {
                best = world;
            }
        }
        return best;
    }

    int sure(int plan, int what) {
        Town t = town(plan);
        if (t == null || !oneBit(what) || fits(t).isEmpty()) {
            return NONE;
        }
        int bits = 0;
        for (int f = 0; f < t.troubles.size(); f++) {
            int with = 0;
            for (int world : fits(t)) {
                with += world >> f & 1;
            }
            bits |= (what == 1 ? with > 0 : with == fits(t).size()) ? 1 << f : 0;
        }
        return bits;
    }

    private static Map<Integer, Integer> kinds(Town t, int test, boolean wet) {
        Map<Integer, Integer> kinds = new HashMap<>();
        for (int world : fits(t)) {
            kinds.merge(tell(t, test, world, wet), 1, Integer::sum);
        }
        return kinds;
    }

    int parts(int plan, int test, boolean wet, int what) {
        Town t = town(plan);
        if (t == null || test < 0 || test >= t.tests.size() || !oneBit(what)) {
            return NONE;
        }
        Map<Integer, Integer> kinds = kinds(t, test, wet);
        return what == 1 ? kinds.size() : kinds.values().stream().mapToInt(n -> n).max().orElse(0);
    }

    int next(int plan, boolean wet, int box, int far) {
        Town t = town(plan);
        if (t == null || box < 0 || box >= t.boxes || far < 0 || fits(t).isEmpty()) {
            return NONE;
        }
        int best = NONE;
        long bestRank = Long.MAX_VALUE;
        for (int test = 0; test < t.tests.size(); test++) {
            int[] one = t.tests.get(test);
            Cable c = t.cables.get(one[0] == 0 ? one[4] : one[1]);
            int way = walk(plan, box, (one[0] == 0 ? one[5] : one[3]) == 0 ? c.a : c.b);
            long rank = (parts(plan, test, wet, 0) * 1000L + way) * 100 + test;
            if (way != NONE && way <= far && rank < bestRank) {
                best = test;
                bestRank = rank;
            }
        }
        return best;
    }

    int walk(int plan, int one, int other) {
        Town t = town(plan);
        if (t == null || one < 0 || one >= t.boxes || other < 0 || other >= t.boxes) {
            return NONE;
        }
        int[] far = new int[t.boxes];
        java.util.Arrays.fill(far, NONE);
        far[one] = 0;
        for (int round = 0; round < t.boxes; round++) {
            for (Cable c : t.cables) {
                if (far[c.a] != NONE && far[c.b] == NONE) {
                    far[c.b] = far[c.a] + c.l;
                } else if (far[c.b] != NONE && far[c.a] == NONE) {
                    far[c.a] = far[c.b] + c.l;
                }
            }
        }
        return far[other];
    }

    int distance(int plan, int cable, int pair, int e, int what) {
        Town t = town(plan);
        if (t == null || !pair(t, cable, pair) || e < 0 || !oneBit(what)) {
            return NONE;
        }
        int found = NONE;
        for (int d = 0; d <= t.cables.get(cable).l; d++) {
            Ground g = new Ground(t, 0, false);
            g.faults.add(new int[] {1, cable, pair, 0, d});
            boolean fine = true;
            for (int[] r : t.readings) {
                int[] one = t.tests.get(r[0]);
                if (one[0] == 1 && r[1] == 0) {
                    long off = (long) (r[2] / 4) - g.metres(one[1], one[2], one[3]) / 4;
                    fine &= off <= e && -off <= e;
                }
            }
            if (fine && (found == NONE || what == 1)) {
                found = d;
            }
        }
        return found;
    }

    boolean want(int plan, int house, int pair) {
        Town t = town(plan);
        if (t == null) {
            return false;
        }
        Map<Integer, Integer> houses = layout(t, 0).houses;
        if (!houses.containsKey(house)) {
            return false;
        }
        int cable = houses.get(house) / 8;
        if (pair != NONE && !pair(t, cable, pair)) {
            return false;
        }
        for (Map.Entry<Integer, Integer> other : houses.entrySet()) {
            boolean wants = t.wants.getOrDefault(other.getKey(), NONE) == pair;
            if (pair != NONE && other.getKey() != house && other.getValue() / 8 == cable && wants) {
                return false;
            }
        }
        t.wants.put(house, pair);
        return true;
    }

    int moves(int plan, int world, int box, int i) {
        Town t = town(plan);
        if (t == null || !world(t, world) || comes(t, box) == NONE) {
            return NONE;
        }
        int c = comes(t, box);
        Ground g = new Ground(t, world, false);
        Map<Integer, Integer> on = new TreeMap<>();
        g.all.houses.forEach((house, site) -> {
            if (site / 8 == c) {
                on.put(house, site % 8);
            }
        });
        List<Integer> good = new ArrayList<>();
        for (int p = 0; p < t.cables.get(c).k; p++) {
            if (!g.all.joints.containsKey(8 * c + p) && g.fed(8 * c + p) != 0) {
                good.add(p);
            }
        }
        List<Integer> made = new ArrayList<>();
        List<Integer> aside = new ArrayList<>();
        boolean going = true;
        while (going) {
            going = step(t, on, good, made, aside);
        }
        return i == NONE ? made.size() : i < 0 || i >= made.size() ? NONE : made.get(i);
    }

    private static boolean step(Town t, Map<Integer, Integer> on, List<Integer> good, List<Integer> made, List<Integer> aside) {
        List<Integer> free = new ArrayList<>(good);
        free.removeAll(on.values());
        List<Integer> away = new ArrayList<>();
        for (int house : on.keySet()) {
            int goal = t.wants.getOrDefault(house, NONE);
            if (goal != NONE && goal != on.get(house)) {
                away.add(house);
            }
        }
        for (int house : away) {
            if (free.contains(t.wants.get(house))) {
                on.put(house, t.wants.get(house));
                made.add(8 * house + on.get(house));
                return true;
            }
        }
        for (int house : away) {
            for (int other : away) {
                boolean there = other != house && on.get(other).equals(t.wants.get(house));
                if (there && !aside.contains(house) && !free.isEmpty()) {
                    aside.add(house);
                    on.put(house, free.get(0));
                    made.add(8 * house + free.get(0));
                    return true;
                }
            }
        }
        return false;
    }

    int count(int what) {
        Town t = town(0);
        switch (what) {
            case 0: return towns.size();
            case 1: return tape.length();
            case 2: return t == null ? 0 : t.boxes;
            case 3: return t == null ? 0 : t.cables.size();
            case 4: return t == null ? 0 : t.slips.size();
            case 5: return t == null ? 0 : t.tests.size();
            case 6: return t == null ? 0 : t.readings.size();
            default: return NONE;
        }
    }
}
