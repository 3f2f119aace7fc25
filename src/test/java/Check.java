import java.util.NoSuchElementException;

/** What the tests share: counting wrong answers, and telling plans as texts. */
final class Check {
    private static int wrong = 0;
    private static int asked = 0;

    private Check() {
    }

    static void due(String what, long got, long want) {
        asked++;
        if (got != want) {
            wrong++;
            System.out.println(what + " answered " + got + ", due is " + want);
        }
    }

    static void due(String what, boolean got, boolean want) {
        due(what, got ? 1 : 0, want ? 1 : 0);
    }

    static void refusesCable(BuriedPairs town, int plan, int cable, int what) {
        boolean thrown = false;
        try {
            town.cable(plan, cable, what);
        } catch (NoSuchElementException e) {
            thrown = true;
        }
        due("cable(" + plan + ", " + cable + ", " + what + ") throws", thrown, true);
    }

    /** Bytes of a text on the tape, behind what is there. */
    static int feed(BuriedPairs town, String text) {
        int[] numbers = new int[5];
        int size = town.count(1);
        for (int start = 0; start < text.length(); start += 20) {
            for (int i = 0; i < 20; i++) {
                int sign = start + i < text.length() ? text.charAt(start + i) : 0;
                numbers[i / 4] = numbers[i / 4] << 8 | sign;
            }
            size = town.feed(numbers[0], numbers[1], numbers[2], numbers[3], numbers[4]);
        }
        return size;
    }

    static void feed(Oracle oracle, String text) {
        for (int i = 0; i < text.length(); i++) {
            oracle.feed(text.charAt(i), 0, 0, 0, 0);
        }
    }

    static int plan(BuriedPairs town, String text) {
        town.end(0);
        feed(town, text);
        return town.plan();
    }

    static BuriedPairs town(String text) {
        BuriedPairs town = new BuriedPairs();
        due("plan of " + text, plan(town, text), 0);
        return town;
    }

    static void finish(String name) {
        System.out.println(name + ": " + asked + " answers, " + wrong + " wrong");
        if (wrong != 0) {
            System.exit(1);
        }
    }
}
