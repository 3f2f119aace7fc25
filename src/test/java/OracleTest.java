import java.util.NoSuchElementException;
import java.util.Random;

/** Random runs of calls on the class and on the oracle: each answer must be the same. */
public final class OracleTest {
    private static final int RUNS = 1500;
    private static final int CALLS = 512;

    private final Random random;
    private final int run;
    private final BuriedPairs town = new BuriedPairs();
    private final Oracle oracle = new Oracle();
    /** Few faults keep the oracle quick in most runs. */
    private final int faults;

    private OracleTest(int run) {
        this.run = run;
        random = new Random(run * 0x9E3779B97F4A7C15L);
        faults = run % 50 == 0 ? 10 : 2 + random.nextInt(4);
    }

    public static void main(String[] args) {
        for (int run = 0; run < RUNS; run++) {
            new OracleTest(run).go();
        }
        Check.finish("OracleTest");
    }

    private void go() {
        boolean dense = run % 3 != 0;
        int call = run % 6 == 1 ? crowded() : dense ? dense() : 0;
        while (call < CALLS) {
            if (town.count(0) == 0 || random.nextInt(dense ? 500 : 60) == 0) {
                call += text();
            } else {
                ask(random.nextInt(32));
                call++;
            }
        }
    }

    /** A town of short cables with much in it: slips, faults, tests, wants, and readings as one world tells them. */
    private int dense() {
        int calls = feed(Texts.dense(random)) + 1;
        due("plan of a dense text", town.plan(), oracle.plan());
        for (int i = 0; i < 30; i++) {
            askOfPlan(3 + random.nextInt(4), 0);
        }
        for (int i = 0; i < 12; i++) {
            askOfTests(17, 0);
            askOfFits(28, 0);
        }
        int truth = worldOf(0);
        for (int i = random.nextInt(5); i > 0; i--) {
            int test = upTo(Math.max(1, town.count(5)));
            boolean wet = random.nextBoolean();
            int told = town.tells(0, test, truth, wet);
            due("read", town.read(0, test, wet, told), oracle.read(0, test, wet, told));
        }
        return calls + 70;
    }

    /** Many houses on one or two cables, all wanting something, and all the moves asked for. */
    private int crowded() {
        int calls = feed(Texts.crowded(random)) + 1;
        due("plan of a crowded text", town.plan(), oracle.plan());
        for (int i = 0; i < 6; i++) {
            askOfPlan(3 + random.nextInt(4), 0);
        }
        while (calls < 450) {
            for (int i = 0; i < 12; i++) {
                askOfFits(28, 0);
            }
            int world = worldOf(0);
            int box = 1 + random.nextInt(2);
            int many = town.moves(0, world, box, -1);
            for (int i = -2; i <= many; i++) {
                due("moves", town.moves(0, world, box, i), oracle.moves(0, world, box, i));
            }
            calls += 15 + many;
        }
        return calls + 6;
    }

    private int upTo(int most) {
        int spread = random.nextInt(40);
        if (spread == 0) {
            return random.nextInt();
        }
        return spread == 1 ? random.nextInt(most + 5) - 2 : random.nextInt(most);
    }

    private int planNumber() {
        return random.nextInt(6) == 0 ? upTo(6) : random.nextInt(Math.max(1, town.count(0)));
    }

    private int worldOf(int plan) {
        return random.nextInt(20) == 0 ? upTo(8) : random.nextInt(1 << Math.max(0, town.troubles(plan)));
    }

    /** A number that fits where the plan has it, most times. */
    private int of(int plan, int cable, int what) {
        try {
            return upTo(town.cable(plan, cable, what));
        } catch (NoSuchElementException e) {
            return upTo(3);
        }
    }

    private void due(String what, long got, long want) {
        Check.due("run " + run + ": " + what, got, want);
    }

    private int feed(String text) {
        int calls = 0;
        for (int start = 0; start < text.length(); start += 20, calls++) {
            int[] n = new int[5];
            for (int i = 0; i < 20; i++) {
                n[i / 4] = n[i / 4] << 8 | (start + i < text.length() ? text.charAt(start + i) & 255 : 0);
            }
            due("feed", town.feed(n[0], n[1], n[2], n[3], n[4]), oracle.feed(n[0], n[1], n[2], n[3], n[4]));
        }
        return calls;
    }

    private int text() {
        int calls = 4;
        if (random.nextInt(5) != 0) {
            due("end(0)", town.end(0) ? 1 : 0, oracle.end(0) ? 1 : 0);
        }
        String text = Texts.random(random);
        if (random.nextInt(3) == 0 && town.count(0) > 0) {
            text = Texts.spoilt(text, random);
        }
        calls += feed(text);
        due("fault of " + text, town.fault(), oracle.fault());
        if (random.nextInt(3) == 0) {
            int n = upTo(301);
            due("end(" + n + ")", town.end(n) ? 1 : 0, oracle.end(n) ? 1 : 0);
            due("fault of the start of " + text, town.fault(), oracle.fault());
        }
        due("plan of " + text, town.plan(), oracle.plan());
        return calls;
    }

    private void ask(int call) {
        int plan = planNumber();
        if (call < 8) {
            askOfPlan(call, plan);
        } else if (call < 17) {
            askOfWorld(call, plan);
        } else if (call < 23) {
            askOfTests(call, plan);
        } else {
            askOfFits(call, plan);
        }
    }

    private void askOfPlan(int call, int plan) {
        int x = upTo(Math.max(1, town.count(3)));
        int p = of(plan, x, 2);
        int y = upTo(Math.max(1, town.count(3)));
        int q = random.nextInt(2) == 0 ? of(plan, y, 2) : of(plan, x, 2);
        int d = random.nextInt(4) == 0 ? new int[] {0, of(plan, x, 3) + 1}[random.nextInt(2)] : of(plan, x, 3);
        int kind = upTo(4);
        switch (call) {
            case 0:
                sameCable(plan, x, upTo(4));
                break;
            case 1:
                due("joint", town.joint(plan, x, p), oracle.joint(plan, x, p));
                break;
            case 2:
                due("house", town.house(plan, x + y), oracle.house(plan, x + y));
                break;
            case 3:
                int house = upTo(10);
                due("slip of a house", town.slip(plan, 1, x, p, house, q), oracle.slip(plan, 1, x, p, house, q));
                break;
            case 4:
                due("slip", town.slip(plan, kind, x, p, y, q), oracle.slip(plan, kind, x, p, y, q));
                break;
            case 5:
            case 6:
                if (town.troubles(plan) < faults || random.nextInt(200) == 0) {
                    due("trouble", town.trouble(plan, kind, x, p, q, d), oracle.trouble(plan, kind, x, p, q, d));
                }
                break;
            default:
                due("troubles", town.troubles(plan), oracle.troubles(plan));
                int which = upTo(8) - 1;
                due("count", town.count(which), oracle.count(which));
                break;
        }
    }

    private void sameCable(int plan, int cable, int what) {
        long got;
        long want;
        try {
            got = town.cable(plan, cable, what);
        } catch (NoSuchElementException e) {
            got = -77;
        }
        try {
            want = oracle.cable(plan, cable, what);
        } catch (NoSuchElementException e) {
            want = -77;
        }
        due("cable", got, want);
    }

    private void askOfWorld(int call, int plan) {
        int world = worldOf(plan);
        boolean wet = random.nextBoolean();
        int x = upTo(Math.max(1, town.count(3)));
        int p = of(plan, x, 2);
        int end = upTo(2);
        int y = upTo(Math.max(1, town.count(3)));
        int its = upTo(2);
        int house = upTo(10);
        int box = upTo(Math.max(2, town.count(2)));
        switch (call) {
            case 8:
            case 9:
                due("heard", town.heard(plan, world, wet, x, p, end, y, its), oracle.heard(plan, world, wet, x, p, end, y, its));
                break;
            case 10:
            case 11:
                due("metres", town.metres(plan, world, wet, x, p, end), oracle.metres(plan, world, wet, x, p, end));
                break;
            case 12:
                due("fed", town.fed(plan, world, wet, house), oracle.fed(plan, world, wet, house));
                break;
            case 13:
                due("served", town.served(plan, world, wet), oracle.served(plan, world, wet));
                break;
            case 14:
                due("neighbours", town.neighbours(plan, world, wet, house), oracle.neighbours(plan, world, wet, house));
                break;
            case 15:
                due("spare", town.spare(plan, world, box), oracle.spare(plan, world, box));
                break;
            default:
                due("walk", town.walk(plan, box, x), oracle.walk(plan, box, x));
                break;
        }
    }

    private void askOfTests(int call, int plan) {
        int x = upTo(Math.max(1, town.count(3)));
        int p = of(plan, x, 2);
        int end = upTo(2);
        int y = upTo(Math.max(1, town.count(3)));
        int its = upTo(2);
        int kind = upTo(2);
        int test = upTo(Math.max(1, town.count(5)));
        boolean wet = random.nextBoolean();
        int world = worldOf(plan);
        int spread = random.nextInt(8);
        int told = spread == 0 ? upTo(400) : town.tells(plan, test, world, wet) + (spread == 1 ? 9 : 0);
        switch (call) {
            case 17:
                due("test", town.test(plan, kind, x, p, end, y, its), oracle.test(plan, kind, x, p, end, y, its));
                break;
            case 18:
                due("tells", town.tells(plan, test, world, wet), oracle.tells(plan, test, world, wet));
                break;
            case 19:
                due("read", town.read(plan, test, wet, told), oracle.read(plan, test, wet, told));
                break;
            case 20:
            case 21:
                due("unread", town.unread(plan), oracle.unread(plan));
                break;
            default:
                int e = upTo(20);
                int what = upTo(2);
                due("distance", town.distance(plan, x, p, e, what), oracle.distance(plan, x, p, e, what));
                break;
        }
    }

    private void askOfFits(int call, int plan) {
        int test = upTo(Math.max(1, town.count(5)));
        int what = upTo(2);
        boolean wet = random.nextBoolean();
        int box = upTo(Math.max(2, town.count(2)));
        int far = upTo(200);
        int house = upTo(10);
        int pair = upTo(7) - 1;
        int i = upTo(5) - 1;
        int world = worldOf(plan);
        boolean dear = faults == 10 && random.nextInt(10) != 0;
        if (dear && call < 28) {
            return;
        }
        switch (call) {
            case 23:
                due("fitting", town.fitting(plan, i), oracle.fitting(plan, i));
                break;
            case 24:
                due("fewest", town.fewest(plan), oracle.fewest(plan));
                break;
            case 25:
                if (town.troubles(plan) < 8) {
                    due("sure", town.sure(plan, what), oracle.sure(plan, what));
                }
                break;
            case 26:
                due("parts", town.parts(plan, test, wet, what), oracle.parts(plan, test, wet, what));
                break;
            case 27:
                if (town.troubles(plan) < 8) {
                    due("next", town.next(plan, wet, box, far), oracle.next(plan, wet, box, far));
                }
                break;
            case 28:
            case 29:
                due("want", town.want(plan, house, pair) ? 1 : 0, oracle.want(plan, house, pair) ? 1 : 0);
                break;
            default:
                due("moves", town.moves(plan, world, box, i), oracle.moves(plan, world, box, i));
                break;
        }
    }
}
