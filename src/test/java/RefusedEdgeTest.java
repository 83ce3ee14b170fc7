import java.util.ArrayList;
import java.util.List;
import java.util.function.Supplier;
import java.util.function.ToIntFunction;

/** The sentences of promise 15 (order and limits): which refusal comes first, and what it leaves. */
final class RefusedEdgeTest {
    private record Refused(String name, int code, ToIntFunction<RollupStore> call) {
    }

    private record State(String name, boolean eventsFull, boolean sortsFull,
            Supplier<RollupStore> made) {
    }

    public static void main(String[] args) {
        badBeforeFullOfEvents();
        badBeforeFullOfSorts();
        changesNothing();
        changesNothingMadeOften();
        Checks.end();
    }

    private static void bad(String name, RollupStore x) {
        Checks.due(name + "time -1", x.take(-1, 0, 0, 0), Edge.BAD);
        Checks.due(name + "time 64", x.take(64, 0, 0, 0), Edge.BAD);
        Checks.due(name + "place -1", x.take(0, -1, 0, 0), Edge.BAD);
        Checks.due(name + "place 4", x.take(0, 4, 0, 0), Edge.BAD);
        Checks.due(name + "kind -1", x.take(0, 0, -1, 0), Edge.BAD);
        Checks.due(name + "kind 4", x.take(0, 0, 4, 0), Edge.BAD);
        // An old and a new sort each with an amount outside: the sort is told, the amount is not.
        Checks.due(name + "amount -101, old sort", Edge.takeOfSort(x, 0, -101), Edge.BAD);
        Checks.due(name + "amount 101, old sort", Edge.takeOfSort(x, 0, 101), Edge.BAD);
        Checks.due(name + "amount -101, new sort", Edge.takeOfSort(x, 40, -101), Edge.BAD);
        Checks.due(name + "amount 101, new sort", Edge.takeOfSort(x, 40, 101), Edge.BAD);
        Checks.due(name + "all wrong", x.take(Integer.MIN_VALUE, Integer.MAX_VALUE,
            Integer.MIN_VALUE, Integer.MAX_VALUE), Edge.BAD);
    }

    private static void badBeforeFullOfEvents() {
        Checks.sentence("Promise 15", "take: BAD is tested before FULL. (401st event)");
        for (int number : new int[] {1, 40}) {
            RollupStore x = Edge.fullOfEvents(number, 0);
            bad("400 events of " + number + " sorts: ", x);
            Checks.due("401st, all else right", Edge.takeOfSort(x, 0, 100), Edge.FULL);
        }
    }

    private static void badBeforeFullOfSorts() {
        Checks.sentence("Promise 15", "take: BAD is tested before FULL. (41st sort)");
        RollupStore x = Edge.ofSorts(40, 0);
        bad("40 sorts: ", x);
        Checks.due("41st sort, all else right", Edge.takeOfSort(x, 40, -100), Edge.FULL);
    }

    private static List<State> states() {
        return List.of(
            new State("none there", false, false, RollupStore::new),
            new State("one there", false, false, Edge::one),
            new State("some there", false, false, Edge::some),
            new State("399 events", false, false, RefusedEdgeTest::nearlyFull),
            new State("400 events of one sort", true, false, () -> Edge.fullOfEvents(1, 2)),
            new State("39 sorts", false, false, () -> Edge.ofSorts(39, 2)),
            new State("40 sorts", false, true, () -> Edge.ofSorts(40, 2)),
            new State("400 events of 40 sorts", true, true, () -> Edge.fullOfEvents(40, 2)),
            new State("forgotten", false, false, RefusedEdgeTest::forgotten));
    }

    private static RollupStore nearlyFull() {
        RollupStore x = new RollupStore();
        for (int i = 0; i < 399; i++) {
            Edge.takeOfSort(x, i % 3, i % 100);
        }
        return x;
    }

    private static RollupStore forgotten() {
        RollupStore x = Edge.some();
        x.seal();
        x.forget(0);
        x.forget(15);
        return x;
    }

    private static List<Refused> refusals(State state) {
        List<Refused> list = new ArrayList<>();
        int bad = Edge.BAD;
        for (int over : new int[] {-1, 64, Integer.MIN_VALUE, Integer.MAX_VALUE}) {
            list.add(new Refused("take, time " + over, bad, x -> x.take(over, 1, 1, 50)));
            list.add(new Refused("forget(" + over + ")", bad, x -> x.forget(over)));
        }
        for (int over : new int[] {-1, 4, Integer.MIN_VALUE, Integer.MAX_VALUE}) {
            list.add(new Refused("take, place " + over, bad, x -> x.take(4, over, 1, 50)));
            list.add(new Refused("take, kind " + over, bad, x -> x.take(4, 1, over, 50)));
        }
        for (int over : new int[] {-101, 101, Integer.MIN_VALUE, Integer.MAX_VALUE}) {
            list.add(new Refused("take, amount " + over, bad, x -> x.take(4, 1, 1, over)));
        }
        list.add(new Refused("forget(16)", bad, x -> x.forget(16)));
        if (state.eventsFull()) {
            list.add(new Refused("401st, old sort", Edge.FULL, x -> Edge.takeOfSort(x, 0, -100)));
            list.add(new Refused("401st, old sort", Edge.FULL, x -> Edge.takeOfSort(x, 0, 100)));
        }
        if (state.eventsFull() || state.sortsFull()) {
            list.add(new Refused("new sort", Edge.FULL, x -> Edge.takeOfSort(x, 41, -100)));
            list.add(new Refused("new sort", Edge.FULL, x -> Edge.takeOfSort(x, 255, 100)));
        }
        questions(list);
        return list;
    }

    private static void questions(List<Refused> list) {
        int bad = Edge.BAD;
        int none = Edge.NONE;
        int every = Checks.EVERY;
        for (int no : new int[] {-1, 262144, Integer.MIN_VALUE, Integer.MAX_VALUE}) {
            list.add(new Refused("count(" + no + ")", bad, x -> x.count(no)));
            list.add(new Refused("sum(" + no + ")", none, x -> x.sum(no)));
            list.add(new Refused("least(" + no + ")", none, x -> x.least(no)));
            list.add(new Refused("greatest(" + no + ")", none, x -> x.greatest(no)));
            list.add(new Refused("sortsPassing(" + no + ")", bad, x -> x.sortsPassing(no)));
            list.add(new Refused("gaps(" + no + ")", bad, x -> x.gaps(no)));
            list.add(new Refused("sumFor(" + no + ", 0, 0)", none, x -> x.sumFor(no, 0, 0)));
            list.add(new Refused("top(" + no + ", 0, 0)", bad, x -> x.top(no, 0, 0)));
            list.add(new Refused("sumFor of value " + no, none, x -> x.sumFor(every, 1, no)));
            list.add(new Refused("top, n " + no, bad, x -> x.top(every, 0, no)));
        }
        for (int by : new int[] {-1, 3, Integer.MIN_VALUE, Integer.MAX_VALUE}) {
            list.add(new Refused("sumFor by " + by, none, x -> x.sumFor(every, by, 0)));
            list.add(new Refused("top by " + by, bad, x -> x.top(every, by, 0)));
        }
        int nothing = Checks.NOTHING;
        list.add(new Refused("least of none", none, x -> x.least(nothing)));
        list.add(new Refused("greatest of none", none, x -> x.greatest(nothing)));
        list.add(new Refused("sumFor of none", none, x -> x.sumFor(nothing, 0, 0)));
        list.add(new Refused("top of none", bad, x -> x.top(nothing, 0, 0)));
    }

    private static void changesNothing() {
        Checks.sentence("Promise 15", "Where nothing else is said, a call that is refused (by a code"
            + " below 0 that is named, or by false) changes nothing.");
        for (State state : states()) {
            for (Refused refused : refusals(state)) {
                String name = state.name() + ": " + refused.name();
                RollupStore x = state.made().get();
                Checks.due(name, refused.call().applyAsInt(x), refused.code());
                Edge.alike("after " + name, x, state.made().get());
            }
        }
    }

    private static void changesNothingMadeOften() {
        Checks.sentence("Promise 15", "a call that is refused [..] changes nothing. (all in one run)");
        for (State state : states()) {
            RollupStore x = state.made().get();
            int room = 512 - 400 - Edge.ALIKE_CALLS;
            int calls = 0;
            for (Refused refused : refusals(state)) {
                Checks.due(state.name() + ": " + refused.name(), refused.call().applyAsInt(x),
                    refused.code());
                if (++calls == room) {
                    Edge.alike("after " + calls + " refused, " + state.name(), x,
                        state.made().get());
                    x = state.made().get();
                    calls = 0;
                }
            }
            Edge.alike("after " + calls + " refused, " + state.name(), x, state.made().get());
        }
    }
}
