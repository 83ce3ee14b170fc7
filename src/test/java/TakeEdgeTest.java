/** The sentences of promises 1 (a new object), 2 (take), 5 (events) and 6 (sorts), at their bounds. */
final class TakeEdgeTest {
    public static void main(String[] args) {
        newObject();
        takesAnEvent();
        badTime();
        badPlace();
        badKind();
        badAmount();
        full401stEvent();
        full41stSort();
        fullOfBoth();
        numberOfItsSort();
        events();
        sorts();
        Checks.end();
    }

    private static void newObject() {
        Checks.sentence("Promise 1", "No events.");
        RollupStore x = new RollupStore();
        Checks.due("events()", x.events(), 0);
        Checks.due("sorts()", x.sorts(), 0);
        for (int mode = 0; mode < 4; mode++) {
            for (int sets : new int[] {0, 15}) {
                int filter = Checks.filter(sets, sets, mode, 0, 15);
                Checks.due("count(" + filter + ")", x.count(filter), 0);
                Checks.due("sum(" + filter + ")", x.sum(filter), 0);
                Checks.due("least(" + filter + ")", x.least(filter), Edge.NONE);
                Checks.due("greatest(" + filter + ")", x.greatest(filter), Edge.NONE);
                Checks.due("sortsPassing(" + filter + ")", x.sortsPassing(filter), 0);
                Checks.due("gaps(" + filter + ")", x.gaps(filter), 0);
                for (int by = 0; by < 3; by++) {
                    Checks.due("sumFor by " + by, x.sumFor(filter, by, 0), Edge.NONE);
                    Checks.due("top by " + by, x.top(filter, by, 0), Edge.BAD);
                }
            }
        }
        for (int hour = 0; hour <= 15; hour++) {
            Checks.due("forget(" + hour + ")", x.forget(hour), 0);
        }
        Checks.due("first take", x.take(0, 0, 0, 0), 1);
    }

    private static void takesAnEvent() {
        Checks.sentence("Promise 2", "Takes an event.");
        int[][] edges = {{0, 0, 0, -100}, {63, 3, 3, 100}, {0, 3, 0, 100}, {63, 0, 3, -100},
            {3, 0, 3, 0}, {60, 3, 0, 1}};
        for (int[] e : edges) {
            String name = "take(" + e[0] + ", " + e[1] + ", " + e[2] + ", " + e[3] + ")";
            RollupStore x = new RollupStore();
            Checks.due(name, x.take(e[0], e[1], e[2], e[3]), 1);
            int only = Checks.filter(1 << e[1], 1 << e[2], 0, e[0] / 4, e[0] / 4);
            Checks.due(name + ": events()", x.events(), 1);
            Checks.due(name + ": sorts()", x.sorts(), 1);
            Checks.due(name + ": count", x.count(only), 1);
            Checks.due(name + ": least", x.least(only), e[3]);
            Checks.due(name + ": greatest", x.greatest(only), e[3]);
            Checks.due(name + ": hour", x.top(only, 0, 0), e[0] / 4);
            Checks.due(name + ": place", x.top(only, 1, 0), e[1]);
            Checks.due(name + ": kind", x.top(only, 2, 0), e[2]);
        }
    }

    private static void badTime() {
        Checks.sentence("Promise 2", "Answers BAD when time is not 0 .. 63");
        RollupStore x = Edge.some();
        for (int time : Edge.outside(0, 63)) {
            Checks.due("take(" + time + ", 1, 2, 5)", x.take(time, 1, 2, 5), Edge.BAD);
        }
        Edge.alike("after bad times", x, Edge.some());
        Checks.due("time -1 of a new object", new RollupStore().take(-1, 0, 0, 0), Edge.BAD);
        Checks.due("time 0", new RollupStore().take(0, 0, 0, 0), 1);
        Checks.due("time 63", new RollupStore().take(63, 0, 0, 0), 1);
        Checks.due("time 64 of a new object", new RollupStore().take(64, 0, 0, 0), Edge.BAD);
    }

    private static void badPlace() {
        Checks.sentence("Promise 2", "Answers BAD when [..] place or kind is not 0 .. 3 (place)");
        RollupStore x = Edge.some();
        for (int place : Edge.outside(0, 3)) {
            Checks.due("take(9, " + place + ", 2, 5)", x.take(9, place, 2, 5), Edge.BAD);
        }
        Edge.alike("after bad places", x, Edge.some());
        Checks.due("place -1 of a new object", new RollupStore().take(0, -1, 0, 0), Edge.BAD);
        Checks.due("place 0", new RollupStore().take(0, 0, 0, 0), 1);
        Checks.due("place 3", new RollupStore().take(0, 3, 0, 0), 1);
        Checks.due("place 4 of a new object", new RollupStore().take(0, 4, 0, 0), Edge.BAD);
    }

    private static void badKind() {
        Checks.sentence("Promise 2", "Answers BAD when [..] place or kind is not 0 .. 3 (kind)");
        RollupStore x = Edge.some();
        for (int kind : Edge.outside(0, 3)) {
            Checks.due("take(9, 2, " + kind + ", 5)", x.take(9, 2, kind, 5), Edge.BAD);
        }
        Edge.alike("after bad kinds", x, Edge.some());
        Checks.due("kind -1 of a new object", new RollupStore().take(0, 0, -1, 0), Edge.BAD);
        Checks.due("kind 0", new RollupStore().take(0, 0, 0, 0), 1);
        Checks.due("kind 3", new RollupStore().take(0, 0, 3, 0), 1);
        Checks.due("kind 4 of a new object", new RollupStore().take(0, 0, 4, 0), Edge.BAD);
    }

    private static void badAmount() {
        Checks.sentence("Promise 2", "Answers BAD when [..] amount is not -100 .. 100");
        RollupStore x = Edge.some();
        for (int amount : Edge.outside(-100, 100)) {
            Checks.due("take(9, 2, 1, " + amount + ")", x.take(9, 2, 1, amount), Edge.BAD);
        }
        Edge.alike("after bad amounts", x, Edge.some());
        Checks.due("-101 of a new object", new RollupStore().take(0, 0, 0, -101), Edge.BAD);
        Checks.due("-100", new RollupStore().take(0, 0, 0, -100), 1);
        Checks.due("100", new RollupStore().take(0, 0, 0, 100), 1);
        Checks.due("101 of a new object", new RollupStore().take(0, 0, 0, 101), Edge.BAD);
    }

    private static void full401stEvent() {
        Checks.sentence("Promise 2", "FULL when it would be the 401st event");
        for (int number = 1; number <= 40; number += 13) {
            String name = "400 events of " + number + " sorts: ";
            RollupStore x = Edge.fullOfEvents(number, 2);
            Checks.due(name + "the 400th was taken", x.events(), 400);
            Checks.due(name + "401st of an old sort", Edge.takeOfSort(x, 0, 5), Edge.FULL);
            Checks.due(name + "401st of a new sort", Edge.takeOfSort(x, number, 5), Edge.FULL);
            Checks.due(name + "401st of the last sort", Edge.takeOfSort(x, 255, 5), Edge.FULL);
            Edge.alike(name + "after the 401st", x, Edge.fullOfEvents(number, 2));
        }
        RollupStore y = Edge.fullOfEvents(1, 100);
        for (int more = 0; more < 100; more++) {
            Checks.due("401st, time " + more, Edge.takeOfSort(y, more, 1), Edge.FULL);
        }
        Checks.due("forget after 100 refused", y.forget(0), 400);
        Checks.due("room after it", Edge.takeOfSort(y, 0, 1), 1);
    }

    private static void full41stSort() {
        Checks.sentence("Promise 2", "FULL when it would be [..] the first of a 41st sort");
        RollupStore x = Edge.ofSorts(39, 1);
        Checks.due("the first of the 40th sort", Edge.takeOfSort(x, 39, 1), 1);
        for (int i = 40; i < 256; i++) {
            Checks.due("sort number " + i, Edge.takeOfSort(x, i, 5), Edge.FULL);
        }
        for (int i = 0; i < 40; i++) {
            Checks.due("the second of sort " + i, Edge.takeOfSort(x, i, 1), 2);
        }
        Checks.due("the 41st still", Edge.takeOfSort(x, 40, 1), Edge.FULL);
        RollupStore y = Edge.ofSorts(40, 1);
        Checks.due("the 41st", Edge.takeOfSort(y, 40, 5), Edge.FULL);
        Edge.alike("after the 41st", y, Edge.ofSorts(40, 1));
    }

    private static void fullOfBoth() {
        Checks.sentence("Promise 2",
            "FULL when it would be the 401st event or the first of a 41st sort (near both)");
        RollupStore x = Edge.ofSorts(40, 1);
        for (int i = 40; i < 399; i++) {
            Edge.takeOfSort(x, 7, 1);
        }
        Checks.due("400th event of a 41st sort", Edge.takeOfSort(x, 40, 1), Edge.FULL);
        Checks.due("400th event of a 40th sort", Edge.takeOfSort(x, 39, 1), 2);
        Checks.due("401st event of a 40th sort", Edge.takeOfSort(x, 39, 1), Edge.FULL);
        Checks.due("401st event of a 41st sort", Edge.takeOfSort(x, 40, 1), Edge.FULL);
        RollupStore y = Edge.ofSorts(39, 1);
        for (int i = 39; i < 399; i++) {
            Edge.takeOfSort(y, 7, 1);
        }
        Checks.due("400th event, 40th sort", Edge.takeOfSort(y, 39, 1), 1);
        Checks.due("both: events()", y.events(), 400);
        Checks.due("both: sorts()", y.sorts(), 40);
        Checks.due("both: one more", Edge.takeOfSort(y, 40, 1), Edge.FULL);
    }

    private static void numberOfItsSort() {
        Checks.sentence("Promise 2", "otherwise the number of events of its sort now");
        RollupStore x = new RollupStore();
        for (int i = 1; i <= 400; i++) {
            Checks.due(i + ". of one sort", x.take(60 + i % 4, 3, 3, 100 - i % 201), i);
        }
        x.forget(15);
        Checks.due("first again after forget", x.take(63, 3, 3, 0), 1);
        RollupStore y = new RollupStore();
        for (int i = 0; i < 400; i++) {
            Checks.due("event " + i + " in turn", Edge.takeOfSort(y, i % 40, -1), i / 40 + 1);
        }
        Checks.due("refused", Edge.takeOfSort(y, 0, -1), Edge.FULL);
    }

    private static void events() {
        Checks.sentence("Promise 5", "The number of events.");
        RollupStore x = new RollupStore();
        Checks.due("none there", x.events(), 0);
        x.take(0, 0, 0, 0);
        Checks.due("one there", x.events(), 1);
        x.forget(0);
        Checks.due("none there again", x.events(), 0);
        RollupStore y = Edge.fullOfEvents(1, 0);
        Checks.due("as many as can be", y.events(), 400);
        y.take(0, 0, 0, 0);
        Checks.due("one more refused", y.events(), 400);
        y.forget(0);
        Checks.due("all forgotten", y.events(), 0);
        RollupStore z = new RollupStore();
        for (int i = 1; i <= 250; i++) {
            Edge.takeOfSort(z, i % 40, 0);
            Checks.due("after " + i, z.events(), i);
        }
    }

    private static void sorts() {
        Checks.sentence("Promise 6", "The number of sorts of the events.");
        RollupStore x = new RollupStore();
        Checks.due("none there", x.sorts(), 0);
        x.take(0, 0, 0, 0);
        Checks.due("one there", x.sorts(), 1);
        x.take(3, 0, 0, 1);
        Checks.due("two events of one sort", x.sorts(), 1);
        x.forget(0);
        Checks.due("none there again", x.sorts(), 0);
        RollupStore y = new RollupStore();
        for (int i = 1; i <= 40; i++) {
            Edge.takeOfSort(y, i - 1, 0);
            Checks.due("after sort " + i, y.sorts(), i);
        }
        Edge.takeOfSort(y, 40, 0);
        Checks.due("one more refused", y.sorts(), 40);
        for (int hour = 0; hour < 16; hour++) {
            int before = y.sorts();
            int gone = y.forget(hour);
            Checks.due("after forget(" + hour + ")", y.sorts(), before - gone);
        }
        Checks.due("all forgotten", y.sorts(), 0);
        Checks.due("400 events of one sort", Edge.fullOfEvents(1, 0).sorts(), 1);
        Checks.due("400 events of 40 sorts", Edge.fullOfEvents(40, 0).sorts(), 40);
    }
}
