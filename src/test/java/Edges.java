import java.util.List;
import java.util.function.Supplier;

/**
 * One call, with a row of numbers that it takes: how far each of them goes on both sides, and that a refused call
 * changes nothing. Each row is tried on an object of its own.
 */
final class Edges {
    /** What a call answers to a row of numbers. */
    interface Call {
        long on(BuriedPairs town, int... n);
    }

    static final long THROWS = Long.MIN_VALUE;
    private static final int MIN = Integer.MIN_VALUE;
    private static final int MAX = Integer.MAX_VALUE;

    private final String name;
    private final Supplier<BuriedPairs> maker;
    private final Call call;
    private final long refusal;
    private final int[] fine;

    Edges(String name, Supplier<BuriedPairs> maker, Call call, long refusal, int... fine) {
        this.name = name;
        this.maker = maker;
        this.call = call;
        this.refusal = refusal;
        this.fine = fine;
    }

    /** The number at a place goes from low to high: both are taken, and neither the next ones nor the outermost ints. */
    Edges goes(int place, int low, long dueAtLow, int high, long dueAtHigh) {
        takes(dueAtLow, with(place, low));
        takes(dueAtHigh, with(place, high));
        if (low > MIN) {
            refuses(with(place, low - 1));
            refuses(with(place, MIN));
        }
        if (high < MAX) {
            refuses(with(place, high + 1));
            refuses(with(place, MAX));
        }
        return this;
    }

    /** Any int at this place is as good as another. */
    Edges isNotAsked(int place) {
        long due = call.on(maker.get(), fine);
        Check.due(row(fine) + " is taken", due != refusal, true);
        for (int any : new int[] {MIN, -2, -1, 0, 1, 7, 100, MAX}) {
            takes(due, with(place, any));
        }
        return this;
    }

    Edges takes(long due, int... n) {
        Check.due(row(n) + " is taken", due != refusal, true);
        Check.due(row(n), call.on(maker.get(), n), due);
        return this;
    }

    Edges refuses(int... n) {
        unchanged(row(n), maker, town -> call.on(town, n), refusal);
        return this;
    }

    /**
     * "What is refused answers as told and changes nothing": a deed on one of two twins, with the answer that is due;
     * behind it both are still alike.
     */
    static void unchanged(String what, Supplier<BuriedPairs> maker, Deed deed, long due) {
        BuriedPairs asked = maker.get();
        Check.due(what, deed.on(asked), due);
        List<String> got = Picture.of(asked);
        List<String> want = Picture.of(maker.get());
        Check.due(what + " changes nothing: " + firstOther(got, want), got.equals(want), true);
    }

    /** What is done to an object. */
    interface Deed {
        long on(BuriedPairs town);
    }

    private static String firstOther(List<String> got, List<String> want) {
        for (int i = 0; i < got.size() && i < want.size(); i++) {
            if (!got.get(i).equals(want.get(i))) {
                return got.get(i) + ", not " + want.get(i);
            }
        }
        return got.size() + " rows, not " + want.size();
    }

    private int[] with(int place, int number) {
        int[] other = fine.clone();
        other[place] = number;
        return other;
    }

    private String row(int[] n) {
        StringBuilder text = new StringBuilder(name).append('(');
        for (int i = 0; i < n.length; i++) {
            text.append(i == 0 ? "" : ", ").append(n[i]);
        }
        return text.append(')').toString();
    }
}
