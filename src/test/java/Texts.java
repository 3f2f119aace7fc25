import java.util.ArrayList;
import java.util.List;
import java.util.Random;

/** Makes texts of plans: good ones, and ones with a byte changed, lost or too many. */
final class Texts {
    private static final String SIGNS = "bcjh;  0123456789x";

    private Texts() {
    }

    static String random(Random random) {
        int boxes = 2 + random.nextInt(7);
        List<int[]> cables = new ArrayList<>();
        StringBuilder text = new StringBuilder();
        text.append(blanks(random)).append('b').append(number(random, boxes));
        boolean[] taken = new boolean[boxes];
        for (int i = 0; i < 30 && text.length() < 270; i++) {
            int kind = random.nextInt(4);
            if (kind == 0 || cables.size() < 2) {
                int b = 1 + random.nextInt(boxes - 1);
                if (!taken[b]) {
                    taken[b] = true;
                    int[] c = {random.nextInt(b), b, 1 + random.nextInt(6), 1 + random.nextInt(random.nextInt(3) == 0 ? 99 : 8)};
                    cables.add(c);
                    statement(text, random, 'c', c);
                }
            } else if (kind == 3) {
                int x = random.nextInt(cables.size());
                statement(text, random, 'h', x, random.nextInt(cables.get(x)[2]), random.nextInt(10));
            } else {
                int x = random.nextInt(cables.size());
                int y = random.nextInt(cables.size());
                if (cables.get(x)[1] == cables.get(y)[0]) {
                    statement(text, random, 'j', x, random.nextInt(cables.get(x)[2]), y, random.nextInt(cables.get(y)[2]));
                }
            }
        }
        return text.append(blanks(random)).toString();
    }

    /** Short cables in a row or nearly so, most pairs joined, houses in plenty. */
    static String dense(Random random) {
        int boxes = 2 + random.nextInt(4);
        List<int[]> cables = new ArrayList<>();
        StringBuilder text = new StringBuilder();
        text.append('b').append(number(random, boxes));
        for (int b = 1; b < boxes; b++) {
            int a = random.nextInt(4) == 0 ? random.nextInt(b) : b - 1;
            int[] c = {a, b, 2 + random.nextInt(3), 1 + random.nextInt(5)};
            cables.add(c);
            statement(text, random, 'c', c);
        }
        for (int x = 0; x < cables.size(); x++) {
            for (int y = 0; y < cables.size(); y++) {
                for (int p = 0; p < cables.get(x)[2] && cables.get(x)[1] == cables.get(y)[0]; p++) {
                    if (random.nextInt(4) != 0 && text.length() < 220) {
                        statement(text, random, 'j', x, p, y, random.nextInt(cables.get(y)[2]));
                    }
                }
            }
        }
        for (int house = 0; house < 10 && text.length() < 280; house++) {
            int x = random.nextInt(2) == 0 ? cables.size() - 1 : random.nextInt(cables.size());
            statement(text, random, 'h', x, random.nextInt(cables.get(x)[2]), house);
        }
        return text.toString();
    }

    /** One or two cables from the exchange, with a house at most of their pairs. */
    static String crowded(Random random) {
        StringBuilder text = new StringBuilder("b 3;c 0 1 6 5");
        int cables = 1 + random.nextInt(2);
        if (cables == 2) {
            int from = random.nextInt(2);
            statement(text, random, 'c', from, 2, 4, 3);
            for (int p = 0; p < 3 && from == 1; p++) {
                statement(text, random, 'j', 0, p, 1, random.nextInt(4));
            }
        }
        int house = 0;
        for (int x = 0; x < cables; x++) {
            for (int p = 0; p < (x == 0 ? 6 : 4) && house < 10; p++) {
                if (random.nextInt(5) != 0) {
                    statement(text, random, 'h', x, p, (7 * house++ + 3) % 10);
                }
            }
        }
        return text.toString();
    }

    static String spoilt(String text, Random random) {
        StringBuilder other = new StringBuilder(text);
        int at = random.nextInt(text.length());
        char sign = random.nextInt(10) == 0 ? (char) (1 + random.nextInt(255)) : SIGNS.charAt(random.nextInt(SIGNS.length()));
        switch (random.nextInt(3)) {
            case 0:
                other.setCharAt(at, sign);
                break;
            case 1:
                other.deleteCharAt(at);
                break;
            default:
                other.insert(at, sign);
                break;
        }
        return other.toString();
    }

    private static void statement(StringBuilder text, Random random, char letter, int... numbers) {
        text.append(blanks(random)).append(';').append(blanks(random)).append(letter);
        for (int n : numbers) {
            text.append(number(random, n));
        }
    }

    private static String blanks(Random random) {
        return random.nextInt(12) == 0 ? " ".repeat(1 + random.nextInt(2)) : "";
    }

    private static String number(Random random, int n) {
        String digits = n < 10 && random.nextInt(10) == 0 ? "0" + n : "" + n;
        return " " + blanks(random) + digits;
    }
}
