/** The sentences of promises 7 to 11 (count, sum, least, greatest, sortsPassing), at their bounds. */
final class FilterEdgeTest {
    private static final int[] NO_FILTERS = Edge.noFilters();

    public static void main(String[] args) {
        countOfPassing();
        countBad();
        sumOfPassing();
        sumOfNone();
        sumNone();
        leastOfPassing();
        leastOfNone();
        leastNone();
        greatestOfPassing();
        greatestOfNone();
        greatestNone();
        sortsOfPassing();
        sortsPassingBad();
        Checks.end();
    }

    /** Filters that let none of Edge.some() pass, each for a reason of its own. */
    private static int[] passedByNone() {
        return new int[] {Checks.NOTHING, Checks.filter(4, 15, 0, 0, 15), Checks.hours(2, 6),
            Checks.hours(8, 14), Checks.hours(15, 0), Checks.filter(15, 15, 3, 0, 15), 0, 262143};
    }

    private static void countOfPassing() {
        Checks.sentence("Promise 7", "The number of events that pass");
        Checks.due("none there", new RollupStore().count(Checks.EVERY), 0);
        Checks.due("one there", Edge.one().count(Checks.EVERY), 1);
        Checks.due("400 there", Edge.fullOfEvents(1, 0).count(Checks.EVERY), 400);
        RollupStore x = Edge.fullOfEvents(40, 0);
        Checks.due("400 there, of 40 sorts", x.count(Checks.EVERY), 400);
        Edge.takeOfSort(x, 0, 0);
        Checks.due("one more refused", x.count(Checks.EVERY), 400);
        for (int filter : passedByNone()) {
            Checks.due("none passes " + filter, Edge.some().count(filter), 0);
        }
        Checks.due("one passes", Edge.some().count(Checks.filter(8, 8, 0, 15, 15)), 1);
        Checks.due("first hour", Edge.some().count(Checks.hours(0, 0)), 2);
        Checks.due("last hour", Edge.some().count(Checks.hours(15, 15)), 2);
        Checks.due("all but the edges", Edge.some().count(Checks.hours(1, 14)), 3);
    }

    private static void countBad() {
        Checks.sentence("Promise 7", "BAD when filter is no filter.");
        RollupStore x = Edge.some();
        for (int filter : NO_FILTERS) {
            Checks.due("count(" + filter + ")", x.count(filter), Edge.BAD);
        }
        Edge.alike("after count of no filters", x, Edge.some());
        Checks.due("of a new object, below", new RollupStore().count(-1), Edge.BAD);
        Checks.due("of a new object, above", new RollupStore().count(262144), Edge.BAD);
        Checks.due("the first filter", new RollupStore().count(0), 0);
        Checks.due("the last filter", new RollupStore().count(262143), 0);
    }

    private static void sumOfPassing() {
        Checks.sentence("Promise 8", "The sum of the amounts of the events that pass");
        Checks.due("one there", Edge.one().sum(Checks.EVERY), 7);
        Checks.due("greatest of all", Edge.fullOfEvents(1, 100).sum(Checks.EVERY), 40000);
        Checks.due("least of all", Edge.fullOfEvents(1, -100).sum(Checks.EVERY), -40000);
        Checks.due("greatest, 40 sorts", Edge.fullOfEvents(40, 100).sum(Checks.EVERY), 40000);
        Checks.due("least, 40 sorts", Edge.fullOfEvents(40, -100).sum(Checks.EVERY), -40000);
        RollupStore x = Edge.fullOfEvents(1, 100);
        Edge.takeOfSort(x, 0, 100);
        Checks.due("one more refused", x.sum(Checks.EVERY), 40000);
        Checks.due("first hour", Edge.some().sum(Checks.hours(0, 0)), 40);
        Checks.due("last hour", Edge.some().sum(Checks.hours(15, 15)), -1);
        Checks.due("all but the edges", Edge.some().sum(Checks.hours(1, 14)), -20);
    }

    private static void sumOfNone() {
        Checks.sentence("Promise 8", "(0 when none does)");
        for (int filter : passedByNone()) {
            Checks.due("none passes " + filter, Edge.some().sum(filter), 0);
            Checks.due("none there for " + filter, new RollupStore().sum(filter), 0);
        }
        RollupStore x = Edge.one();
        x.forget(1);
        Checks.due("all forgotten", x.sum(Checks.EVERY), 0);
    }

    private static void sumNone() {
        Checks.sentence("Promise 8", "NONE when filter is no filter.");
        RollupStore x = Edge.some();
        for (int filter : NO_FILTERS) {
            Checks.due("sum(" + filter + ")", x.sum(filter), Edge.NONE);
        }
        Edge.alike("after sum of no filters", x, Edge.some());
        Checks.due("of a new object, below", new RollupStore().sum(-1), Edge.NONE);
        Checks.due("of a new object, above", new RollupStore().sum(262144), Edge.NONE);
        Checks.due("the first filter", new RollupStore().sum(0), 0);
        Checks.due("the last filter", new RollupStore().sum(262143), 0);
    }

    private static void leastOfPassing() {
        Checks.sentence("Promise 9", "The least amount of the events that pass");
        for (int amount : new int[] {-100, -1, 0, 1, 100}) {
            RollupStore x = new RollupStore();
            x.take(30, 2, 1, amount);
            Checks.due("of one, " + amount, x.least(Checks.EVERY), amount);
            x.take(30, 2, 1, 100);
            Checks.due("of two of a sort, " + amount, x.least(Checks.EVERY), amount);
            x.take(0, 0, 0, 100);
            Checks.due("of two sorts, " + amount, x.least(Checks.EVERY), amount);
            x.take(63, 3, 3, -100);
            Checks.due("one less, " + amount, x.least(Checks.EVERY), -100);
            Checks.due("that does not pass, " + amount, x.least(Checks.hours(0, 14)), amount);
            x.forget(15);
            Checks.due("that is forgotten, " + amount, x.least(Checks.EVERY), amount);
            x.take(62, 0, 0, 100);
            Checks.due("a later sort of more, " + amount, x.least(Checks.EVERY), amount);
            x.take(62, 0, 0, -100);
            Checks.due("that sort's last, " + amount, x.least(Checks.hours(15, 15)), -100);
        }
        RollupStore full = Edge.fullOfEvents(40, 5);
        Edge.takeOfSort(full, 0, -100);
        Checks.due("one more refused", full.least(Checks.EVERY), 5);
        full.take(0, 0, 0, -101);
        Checks.due("a bad one refused", full.least(Checks.EVERY), 5);
    }

    private static void leastOfNone() {
        Checks.sentence("Promise 9", "NONE when there is none");
        for (int filter : passedByNone()) {
            Checks.due("none passes " + filter, Edge.some().least(filter), Edge.NONE);
            Checks.due("none there for " + filter, new RollupStore().least(filter), Edge.NONE);
        }
        RollupStore x = Edge.one();
        x.forget(1);
        Checks.due("all forgotten", x.least(Checks.EVERY), Edge.NONE);
    }

    private static void leastNone() {
        Checks.sentence("Promise 9", "NONE when [..] filter is no filter.");
        RollupStore x = Edge.some();
        for (int filter : NO_FILTERS) {
            Checks.due("least(" + filter + ")", x.least(filter), Edge.NONE);
        }
        Edge.alike("after least of no filters", x, Edge.some());
        Checks.due("of a new object, below", new RollupStore().least(-1), Edge.NONE);
        Checks.due("of a new object, above", new RollupStore().least(262144), Edge.NONE);
        Checks.due("the first filter that passes it", Edge.ofHours(0).least(17), 1);
        Checks.due("a last filter that passes it",
            Edge.ofHours(15).least(262143 - 255), 1);
    }

    private static void greatestOfPassing() {
        Checks.sentence("Promise 10", "The greatest amount of the events that pass");
        for (int amount : new int[] {-100, -1, 0, 1, 100}) {
            RollupStore x = new RollupStore();
            x.take(30, 2, 1, amount);
            Checks.due("of one, " + amount, x.greatest(Checks.EVERY), amount);
            x.take(30, 2, 1, -100);
            Checks.due("of two of a sort, " + amount, x.greatest(Checks.EVERY), amount);
            x.take(0, 0, 0, -100);
            Checks.due("of two sorts, " + amount, x.greatest(Checks.EVERY), amount);
            x.take(63, 3, 3, 100);
            Checks.due("one more, " + amount, x.greatest(Checks.EVERY), 100);
            Checks.due("that does not pass, " + amount, x.greatest(Checks.hours(0, 14)), amount);
            x.forget(15);
            Checks.due("that is forgotten, " + amount, x.greatest(Checks.EVERY), amount);
            x.take(62, 0, 0, -100);
            Checks.due("a later sort of less, " + amount, x.greatest(Checks.EVERY), amount);
            x.take(62, 0, 0, 100);
            Checks.due("that sort's last, " + amount, x.greatest(Checks.hours(15, 15)), 100);
        }
        RollupStore full = Edge.fullOfEvents(40, -5);
        Edge.takeOfSort(full, 0, 100);
        Checks.due("one more refused", full.greatest(Checks.EVERY), -5);
        full.take(0, 0, 0, 101);
        Checks.due("a bad one refused", full.greatest(Checks.EVERY), -5);
    }

    private static void greatestOfNone() {
        Checks.sentence("Promise 10", "NONE when there is none");
        for (int filter : passedByNone()) {
            Checks.due("none passes " + filter, Edge.some().greatest(filter), Edge.NONE);
            Checks.due("none there for " + filter, new RollupStore().greatest(filter), Edge.NONE);
        }
        RollupStore x = Edge.one();
        x.forget(1);
        Checks.due("all forgotten", x.greatest(Checks.EVERY), Edge.NONE);
    }

    private static void greatestNone() {
        Checks.sentence("Promise 10", "NONE when [..] filter is no filter.");
        RollupStore x = Edge.some();
        for (int filter : NO_FILTERS) {
            Checks.due("greatest(" + filter + ")", x.greatest(filter), Edge.NONE);
        }
        Edge.alike("after greatest of no filters", x, Edge.some());
        Checks.due("of a new object, below", new RollupStore().greatest(-1), Edge.NONE);
        Checks.due("of a new object, above", new RollupStore().greatest(262144), Edge.NONE);
        Checks.due("the first filter that passes it", Edge.ofHours(0).greatest(17), 1);
        Checks.due("a last filter that passes it",
            Edge.ofHours(15).greatest(262143 - 255), 1);
    }

    private static void sortsOfPassing() {
        Checks.sentence("Promise 11", "The number of sorts of the events that pass");
        Checks.due("none there", new RollupStore().sortsPassing(Checks.EVERY), 0);
        Checks.due("one there", Edge.one().sortsPassing(Checks.EVERY), 1);
        Checks.due("400 of one sort", Edge.fullOfEvents(1, 0).sortsPassing(Checks.EVERY), 1);
        RollupStore x = Edge.ofSorts(40, 0);
        Checks.due("40 sorts", x.sortsPassing(Checks.EVERY), 40);
        Edge.takeOfSort(x, 40, 0);
        Checks.due("one more refused", x.sortsPassing(Checks.EVERY), 40);
        Edge.takeOfSort(x, 39, 0);
        Checks.due("an old one more", x.sortsPassing(Checks.EVERY), 40);
        for (int filter : passedByNone()) {
            Checks.due("none passes " + filter, Edge.some().sortsPassing(filter), 0);
        }
        Checks.due("first hour", Edge.some().sortsPassing(Checks.hours(0, 0)), 1);
        Checks.due("last hour", Edge.some().sortsPassing(Checks.hours(15, 15)), 2);
        int passing = 0;
        for (int hour = 0; hour < 16; hour++) {
            passing += x.sortsPassing(Checks.hours(hour, hour));
        }
        Checks.due("40 sorts, hour by hour", passing, 40);
    }

    private static void sortsPassingBad() {
        Checks.sentence("Promise 11", "BAD when filter is no filter.");
        RollupStore x = Edge.some();
        for (int filter : NO_FILTERS) {
            Checks.due("sortsPassing(" + filter + ")", x.sortsPassing(filter), Edge.BAD);
        }
        Edge.alike("after sortsPassing of no filters", x, Edge.some());
        Checks.due("of a new object, below", new RollupStore().sortsPassing(-1), Edge.BAD);
        Checks.due("of a new object, above", new RollupStore().sortsPassing(262144), Edge.BAD);
        Checks.due("the first filter", new RollupStore().sortsPassing(0), 0);
        Checks.due("the last filter", new RollupStore().sortsPassing(262143), 0);
    }
}
