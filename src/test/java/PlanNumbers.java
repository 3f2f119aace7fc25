import java.util.ArrayList;
import java.util.List;
import java.util.NoSuchElementException;
import java.util.function.Supplier;

/** Every call that asks for a plan, with numbers that a furnished plan takes: what it answers to one that is not. */
final class PlanNumbers {
    private interface OfPlan {
        long ask(BuriedPairs town, int plan);
    }

    private static final class Row {
        final String name;
        final long refusal;
        final OfPlan call;

        Row(String name, long refusal, OfPlan call) {
            this.name = name;
            this.refusal = refusal;
            this.call = call;
        }
    }

    private PlanNumbers() {
    }

    private static long cable(BuriedPairs town, int plan) {
        try {
            return town.cable(plan, 0, 0);
        } catch (NoSuchElementException e) {
            return Edges.THROWS;
        }
    }

    private static List<Row> rows() {
        List<Row> rows = new ArrayList<>();
        int none = BuriedPairs.NONE;
        rows.add(new Row("cable", Edges.THROWS, PlanNumbers::cable));
        rows.add(new Row("joint", none, (t, plan) -> t.joint(plan, 0, 0)));
        rows.add(new Row("house", none, (t, plan) -> t.house(plan, 1)));
        rows.add(new Row("slip of a joint", none, (t, plan) -> t.slip(plan, 0, 0, 1, 1, 0)));
        rows.add(new Row("slip of a house", none, (t, plan) -> t.slip(plan, 1, 0, 0, 0, 0)));
        rows.add(new Row("trouble", none, (t, plan) -> t.trouble(plan, 0, 0, 0, 1, 0)));
        rows.add(new Row("troubles", none, (t, plan) -> t.troubles(plan)));
        rows.add(new Row("heard", none, (t, plan) -> t.heard(plan, 0, false, 0, 0, 0, 0, 0)));
        rows.add(new Row("metres", none, (t, plan) -> t.metres(plan, 0, false, 0, 0, 0)));
        rows.add(new Row("fed", none, (t, plan) -> t.fed(plan, 0, false, 1)));
        rows.add(new Row("served", none, (t, plan) -> t.served(plan, 0, false)));
        rows.add(new Row("neighbours", none, (t, plan) -> t.neighbours(plan, 0, false, 1)));
        rows.add(new Row("spare", none, (t, plan) -> t.spare(plan, 0, 1)));
        rows.add(new Row("test of a tone", none, (t, plan) -> t.test(plan, 0, 0, 0, 0, 0, 0)));
        rows.add(new Row("test of metres", none, (t, plan) -> t.test(plan, 1, 0, 0, 0, 0, 0)));
        rows.add(new Row("tells", none, (t, plan) -> t.tells(plan, 0, 0, false)));
        rows.add(new Row("read", none, (t, plan) -> t.read(plan, 0, false, 0)));
        rows.add(new Row("unread", none, (t, plan) -> t.unread(plan)));
        rows.add(new Row("fitting", none, (t, plan) -> t.fitting(plan, 0)));
        rows.add(new Row("fitting, how many", none, (t, plan) -> t.fitting(plan, -1)));
        rows.add(new Row("fewest", none, (t, plan) -> t.fewest(plan)));
        rows.add(new Row("sure", none, (t, plan) -> t.sure(plan, 0)));
        rows.add(new Row("parts", none, (t, plan) -> t.parts(plan, 0, false, 0)));
        rows.add(new Row("next", none, (t, plan) -> t.next(plan, false, 0, 99)));
        rows.add(new Row("walk", none, (t, plan) -> t.walk(plan, 0, 0)));
        rows.add(new Row("distance", none, (t, plan) -> t.distance(plan, 0, 0, Integer.MAX_VALUE, 0)));
        rows.add(new Row("want", 0, (t, plan) -> t.want(plan, 1, 1) ? 1 : 0));
        rows.add(new Row("want none", 0, (t, plan) -> t.want(plan, 1, -1) ? 1 : 0));
        rows.add(new Row("moves", none, (t, plan) -> t.moves(plan, 0, 1, -1)));
        return rows;
    }

    static void allRefuse(Supplier<BuriedPairs> maker, int plan) {
        for (Row row : rows()) {
            Edges.unchanged(row.name + " of plan " + plan, maker, town -> row.call.ask(town, plan), row.refusal);
        }
    }

    static void allTake(Supplier<BuriedPairs> maker, int plan) {
        for (Row row : rows()) {
            boolean taken = row.call.ask(maker.get(), plan) != row.refusal;
            Check.due(row.name + " of plan " + plan + " is taken", taken, true);
        }
    }
}
