import java.util.function.Consumer;
import java.util.function.Supplier;

/** What the document says of an object as a whole: what it is, a new one, and what changes it. */
final class ObjectTest {
    /** time, place, kind, amount; like ones lie apart from each other. */
    private static final int[][] EVENTS = {{8, 1, 2, 30}, {0, 0, 0, -7}, {63, 3, 3, 100},
        {11, 1, 2, -100}, {1, 0, 0, 9}, {60, 3, 3, -99}, {28, 2, 1, 0}, {9, 1, 2, 70},
        {3, 0, 0, -7}, {28, 1, 2, 5}, {62, 3, 0, 1}};

    public static void main(String[] args) {
        addsLikeOnes();
        orderOfTakes();
        newBesideOthers();
        inTurnWithAnother();
        questionsChangeNothing();
        eachQuestionChangesNothing();
        Checks.end();
    }

    private static void addsLikeOnes() {
        Checks.sentence("What it is", "Takes measured events in, adds like ones together, and"
            + " answers questions about them.");
        RollupStore x = taken(0, 1);
        int like = Checks.filter(2, 4, 0, 2, 2);
        Checks.due("events()", x.events(), 11);
        Checks.due("sorts()", x.sorts(), 6);
        Checks.due("count of like ones", x.count(like), 3);
        Checks.due("sum of like ones", x.sum(like), 0);
        Checks.due("least of like ones", x.least(like), -100);
        Checks.due("greatest of like ones", x.greatest(like), 70);
        Checks.due("sorts of like ones", x.sortsPassing(like), 1);
        Checks.due("another of them", x.take(10, 1, 2, 4), 4);
        Checks.due("sum with it", x.sum(like), 4);
        Checks.due("sum by hour", x.sumFor(Checks.EVERY, 0, 2), 4);
        Checks.due("sum by place", x.sumFor(Checks.EVERY, 1, 1), 9);
        Checks.due("sum by kind", x.sumFor(Checks.EVERY, 2, 2), 9);
        Checks.due("greatest sum by kind", x.top(Checks.EVERY, 2, 0), 2);
        Checks.due("gaps", x.gaps(Checks.EVERY), 12);
    }

    /** All the events, from start on in steps; their number is a prime, so no step leaves one out. */
    private static RollupStore taken(int start, int step) {
        RollupStore x = new RollupStore();
        for (int i = 0; i < EVENTS.length; i++) {
            int[] e = EVENTS[(start + i * step) % EVENTS.length];
            x.take(e[0], e[1], e[2], e[3]);
        }
        return x;
    }

    private static void orderOfTakes() {
        Checks.sentence("What it is", "adds like ones together (in whatever order they come)");
        for (int start = 0; start < EVENTS.length; start++) {
            for (int step = 1; step < EVENTS.length; step++) {
                Edge.alike("from " + start + " by " + step, taken(start, step), taken(0, 1));
            }
        }
    }

    private static void newBesideOthers() {
        Checks.sentence("Promise 1", "No events. (while other objects have some)");
        RollupStore early = new RollupStore();
        RollupStore fullOfEvents = Edge.fullOfEvents(1, 100);
        RollupStore fullOfSorts = Edge.ofSorts(40, -100);
        RollupStore late = new RollupStore();
        Checks.due("events() of one made before", early.events(), 0);
        Checks.due("events() of one made after", late.events(), 0);
        Checks.due("sorts() of one made after", late.sorts(), 0);
        Checks.due("count of one made after", late.count(Checks.EVERY), 0);
        Checks.due("least of one made after", late.least(Checks.EVERY), Edge.NONE);
        for (int hour = 0; hour <= 15; hour++) {
            Checks.due("forget(" + hour + ")", late.forget(hour), 0);
        }
        Checks.due("first take of it", late.take(0, 0, 0, 5), 1);
        Checks.due("a sort that others lack", Edge.takeOfSort(late, 200, 5), 1);
        Checks.due("first take of one made before", early.take(0, 0, 0, 6), 1);
        Edge.alike("400 events, others used", fullOfEvents, Edge.fullOfEvents(1, 100));
        Edge.alike("40 sorts, others used", fullOfSorts, Edge.ofSorts(40, -100));
    }

    private static void inTurnWithAnother() {
        Checks.sentence("Promise 1", "No events. (two objects used in turn)");
        RollupStore x = new RollupStore();
        RollupStore y = new RollupStore();
        for (int i = 0; i < 200; i++) {
            Checks.due("x " + i, Edge.takeOfSort(x, i % 40, i % 100), i / 40 + 1);
            Checks.due("y " + i, Edge.takeOfSort(y, 255 - i % 4, -i % 100), i / 4 + 1);
            Checks.due("x: no fifth place", x.top(Checks.EVERY, 1, 4), Edge.BAD);
            y.seal();
        }
        Checks.due("x: sorts()", x.sorts(), 40);
        Checks.due("y: sorts()", y.sorts(), 4);
        Checks.due("x: sum", x.sum(Checks.EVERY), 9900);
        Checks.due("y: sum", y.sum(Checks.EVERY), -9900);
        for (int hour = 0; hour <= 15; hour++) {
            y.forget(hour);
        }
        Checks.due("y: events() after forgets", y.events(), 0);
        Checks.due("x: events() after y's forgets", x.events(), 200);
    }

    private static void questionsChangeNothing() {
        Checks.sentence("Not promised", "Nothing is promised beyond the answers and state changes"
            + " described above (and none is described for a question)");
        looked("none there", RollupStore::new);
        looked("one there", Edge::one);
        looked("some there", Edge::some);
        looked("40 sorts", () -> Edge.ofSorts(40, 2));
        // 400 takes, one look and what goes on fill the 512 calls: no room for a second look.
        gone("400 events of one sort", () -> Edge.fullOfEvents(1, -2), Edge::look);
        gone("400 events of 40 sorts", () -> Edge.fullOfEvents(40, -2), Edge::look);
    }

    private static void looked(String name, Supplier<RollupStore> made) {
        RollupStore x = made.get();
        Edge.same(name + ", asked before", Edge.look(x), Edge.look(made.get()));
        Edge.same(name + ", asked twice", Edge.look(x), Edge.look(made.get()));
        gone(name, made, Edge::look);
    }

    /** An object that was asked goes on as one that was not. */
    private static void gone(String name, Supplier<RollupStore> made, Consumer<RollupStore> ask) {
        RollupStore x = made.get();
        ask.accept(x);
        Edge.same(name + ", asked", Edge.goOn(x), Edge.goOn(made.get()));
    }

    private static void eachQuestionChangesNothing() {
        Checks.sentence("Not promised", "the answers and state changes described above (each"
            + " question by itself)");
        alone("events()", RollupStore::events);
        alone("sorts()", RollupStore::sorts);
        int[] filters = {Checks.EVERY, Checks.NOTHING, Checks.filter(9, 1, 1, 0, 7), 0, 262143};
        for (int filter : filters) {
            alone("count(" + filter + ")", x -> x.count(filter));
            alone("sum(" + filter + ")", x -> x.sum(filter));
            alone("least(" + filter + ")", x -> x.least(filter));
            alone("greatest(" + filter + ")", x -> x.greatest(filter));
            alone("sortsPassing(" + filter + ")", x -> x.sortsPassing(filter));
            alone("gaps(" + filter + ")", x -> x.gaps(filter));
            for (int by = 0; by <= 2; by++) {
                int with = by;
                alone("sumFor(" + filter + ", " + by + ", 0)", x -> x.sumFor(filter, with, 0));
                alone("top(" + filter + ", " + by + ", 1)", x -> x.top(filter, with, 1));
            }
        }
    }

    private static void alone(String name, Consumer<RollupStore> ask) {
        Consumer<RollupStore> often = x -> {
            for (int i = 0; i < 20; i++) {
                ask.accept(x);
            }
        };
        RollupStore x = Edge.some();
        often.accept(x);
        Edge.alike("after 20 times " + name, x, Edge.some());
        gone("400 events, 20 times " + name, () -> Edge.fullOfEvents(40, 2), often);
    }
}
