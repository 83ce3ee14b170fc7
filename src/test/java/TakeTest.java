/** Promises 1 (a new object), 2 (take), 5 (events), 6 (sorts) and 15 (order and limits). */
final class TakeTest {
    public static void main(String[] args) {
        newObject();
        objectsAreApart();
        ordinary();
        everySort();
        timesOfOneHour();
        edges();
        wrongInputs();
        fullOfEvents();
        fullOfSorts();
        badBeforeFull();
        Checks.end();
    }

    private static void newObject() {
        RollupStore x = new RollupStore();
        Checks.due("new: events", x.events(), 0);
        Checks.due("new: sorts", x.sorts(), 0);
        Checks.due("new: count", x.count(Checks.EVERY), 0);
        Checks.due("new: sum", x.sum(Checks.EVERY), 0);
        Checks.due("new: least", x.least(Checks.EVERY), RollupStore.NONE);
        Checks.due("new: greatest", x.greatest(Checks.EVERY), RollupStore.NONE);
        Checks.due("new: sortsPassing", x.sortsPassing(Checks.EVERY), 0);
        Checks.due("new: sumFor", x.sumFor(Checks.EVERY, 0, 0), RollupStore.NONE);
        Checks.due("new: top", x.top(Checks.EVERY, 0, 0), RollupStore.BAD);
        Checks.due("new: gaps", x.gaps(Checks.EVERY), 0);
        for (int hour = 0; hour < 16; hour++) {
            Checks.due("new: forget " + hour, x.forget(hour), 0);
        }
    }

    private static void objectsAreApart() {
        RollupStore x = new RollupStore();
        RollupStore y = new RollupStore();
        x.take(0, 0, 0, 1);
        Checks.due("apart: events of the other", y.events(), 0);
        Checks.due("apart: take of the other", y.take(0, 0, 0, 1), 1);
        y.forget(0);
        Checks.due("apart: events of the first", x.events(), 1);
    }

    private static void ordinary() {
        RollupStore x = new RollupStore();
        Checks.due("first of a sort", x.take(10, 1, 2, 5), 1);
        Checks.due("second of it", x.take(10, 1, 2, -5), 2);
        Checks.due("another place", x.take(10, 2, 2, 5), 1);
        Checks.due("another kind", x.take(10, 1, 1, 5), 1);
        Checks.due("another hour", x.take(14, 1, 2, 5), 1);
        Checks.due("third of the first sort", x.take(10, 1, 2, 5), 3);
        Checks.due("events", x.events(), 6);
        Checks.due("sorts", x.sorts(), 4);
        Checks.due("sum", x.sum(Checks.EVERY), 20);
    }

    /** Each of the 256 sorts stands by itself, and each is told right by its parts. */
    private static void everySort() {
        for (int hour = 0; hour < 16; hour++) {
            RollupStore x = new RollupStore();
            for (int sort = 0; sort < 16; sort++) {
                int place = sort / 4;
                int kind = sort % 4;
                String name = "sort " + hour + " " + place + " " + kind + ": ";
                int only = Checks.filter(1 << place, 1 << kind, 0, hour, hour);
                Checks.due(name + "take", x.take(4 * hour, place, kind, sort), 1);
                Checks.due(name + "take again", x.take(4 * hour + 3, place, kind, 20), 2);
                Checks.due(name + "count", x.count(only), 2);
                Checks.due(name + "sum", x.sum(only), sort + 20);
                Checks.due(name + "least", x.least(only), sort);
                Checks.due(name + "greatest", x.greatest(only), 20);
                Checks.due(name + "sorts", x.sorts(), sort + 1);
                Checks.due(name + "events", x.events(), 2 * sort + 2);
            }
        }
    }

    private static void timesOfOneHour() {
        RollupStore x = new RollupStore();
        for (int time = 0; time < 64; time++) {
            Checks.due("time " + time, x.take(time, 3, 0, 1), time % 4 + 1);
            Checks.due("sorts after time " + time, x.sorts(), time / 4 + 1);
        }
    }

    private static void edges() {
        RollupStore x = new RollupStore();
        Checks.due("least of all", x.take(0, 0, 0, -100), 1);
        Checks.due("greatest of all", x.take(63, 3, 3, 100), 1);
        Checks.due("edges: sum", x.sum(Checks.EVERY), 0);
        Checks.due("edges: least", x.least(Checks.EVERY), -100);
        Checks.due("edges: greatest", x.greatest(Checks.EVERY), 100);
    }

    private static void wrongInputs() {
        RollupStore x = new RollupStore();
        x.take(0, 0, 0, 7);
        int[] times = {-1, 64, -4, 256, Integer.MIN_VALUE, Integer.MAX_VALUE};
        int[] placesAndKinds = {-1, 4, 5, 16, Integer.MIN_VALUE, Integer.MAX_VALUE};
        int[] amounts = {-101, 101, 1000, Integer.MIN_VALUE, Integer.MAX_VALUE};
        for (int time : times) {
            Checks.due("take time " + time, x.take(time, 0, 0, 7), RollupStore.BAD);
        }
        for (int value : placesAndKinds) {
            Checks.due("take place " + value, x.take(0, value, 0, 7), RollupStore.BAD);
            Checks.due("take kind " + value, x.take(0, 0, value, 7), RollupStore.BAD);
        }
        for (int amount : amounts) {
            Checks.due("take amount " + amount, x.take(0, 0, 0, amount), RollupStore.BAD);
        }
        Checks.due("refused: events", x.events(), 1);
        Checks.due("refused: sorts", x.sorts(), 1);
        Checks.due("refused: sum", x.sum(Checks.EVERY), 7);
        Checks.due("refused: least", x.least(Checks.EVERY), 7);
        Checks.due("refused: greatest", x.greatest(Checks.EVERY), 7);
        Checks.due("refused: next take", x.take(0, 0, 0, 7), 2);
    }

    private static void fullOfEvents() {
        RollupStore x = new RollupStore();
        for (int i = 0; i < 399; i++) {
            Checks.due("event " + i, x.take(0, 0, 0, 100), i + 1);
        }
        Checks.due("400th event", x.take(8, 1, 1, -100), 1);
        Checks.due("401st event, old sort", x.take(0, 0, 0, 1), RollupStore.FULL);
        Checks.due("401st event, new sort", x.take(20, 2, 2, -1), RollupStore.FULL);
        Checks.due("full: events", x.events(), 400);
        Checks.due("full: sorts", x.sorts(), 2);
        Checks.due("full: sum", x.sum(Checks.EVERY), 39800);
        Checks.due("full: least of the first", x.least(Checks.hours(0, 0)), 100);
        Checks.due("full: count of the third", x.count(Checks.hours(5, 5)), 0);
        Checks.due("full: forget", x.forget(2), 1);
        Checks.due("room again", x.take(0, 0, 0, 100), 400);
        Checks.due("full again", x.take(0, 0, 0, 100), RollupStore.FULL);
        Checks.due("greatest sum of all", x.sum(Checks.EVERY), 40000);
        Checks.due("full: forget all", x.forget(0), 400);
        Checks.due("new after all", x.take(0, 0, 0, -100), 1);
        Checks.due("sum after all", x.sum(Checks.EVERY), -100);
    }

    private static void fullOfSorts() {
        RollupStore x = new RollupStore();
        for (int i = 0; i < 40; i++) {
            Checks.due("sort " + i, x.take(i / 16 * 4, i / 4 % 4, i % 4, 2), 1);
            Checks.due("sorts after " + i, x.sorts(), i + 1);
        }
        Checks.due("41st sort", x.take(63, 0, 0, 2), RollupStore.FULL);
        Checks.due("41st: sorts", x.sorts(), 40);
        Checks.due("41st: events", x.events(), 40);
        Checks.due("41st: sum", x.sum(Checks.EVERY), 80);
        Checks.due("old sort still", x.take(0, 0, 0, 2), 2);
        Checks.due("forget 16 sorts", x.forget(0), 17);
        Checks.due("forgotten: sorts", x.sorts(), 24);
        for (int i = 0; i < 16; i++) {
            Checks.due("sort again " + i, x.take(63, i / 4, i % 4, 2), 1);
        }
        Checks.due("41st sort again", x.take(0, 0, 0, 2), RollupStore.FULL);
        Checks.due("the end: sorts", x.sorts(), 40);
    }

    private static void badBeforeFull() {
        RollupStore x = new RollupStore();
        for (int i = 0; i < 400; i++) {
            x.take(0, i % 4, i / 4 % 4, 0);
        }
        Checks.due("full", x.take(0, 0, 0, 0), RollupStore.FULL);
        Checks.due("full and bad time", x.take(64, 0, 0, 0), RollupStore.BAD);
        Checks.due("full and bad place", x.take(0, 4, 0, 0), RollupStore.BAD);
        Checks.due("full and bad kind", x.take(0, 0, -1, 0), RollupStore.BAD);
        Checks.due("full and bad amount", x.take(0, 0, 0, 101), RollupStore.BAD);
        RollupStore y = new RollupStore();
        for (int i = 0; i < 40; i++) {
            y.take(i / 16 * 4, i / 4 % 4, i % 4, 0);
        }
        Checks.due("41st sort and bad amount", y.take(63, 0, 0, -101), RollupStore.BAD);
        Checks.due("41st sort", y.take(63, 0, 0, -100), RollupStore.FULL);
    }
}
