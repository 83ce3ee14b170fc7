/** The filters, and promises 7 (count), 8 (sum), 9 (least), 10 (greatest), 11 (sortsPassing). */
final class FilterTest {
    public static void main(String[] args) {
        ordinary();
        nothingPasses();
        modes();
        hourRange();
        noFilters();
        refusedChangesNothing();
        Checks.end();
    }

    private static void all(RollupStore x, int filter, int[] want) {
        Checks.due("count(" + filter + ")", x.count(filter), want[0]);
        Checks.due("sum(" + filter + ")", x.sum(filter), want[1]);
        Checks.due("least(" + filter + ")", x.least(filter), want[2]);
        Checks.due("greatest(" + filter + ")", x.greatest(filter), want[3]);
        Checks.due("sortsPassing(" + filter + ")", x.sortsPassing(filter), want[4]);
    }

    private static RollupStore some() {
        RollupStore x = new RollupStore();
        x.take(0, 0, 0, 10);
        x.take(1, 0, 0, 30);
        x.take(5, 1, 0, -20);
        x.take(6, 1, 2, -40);
        x.take(62, 3, 3, 0);
        x.take(63, 3, 3, -1);
        return x;
    }

    private static void ordinary() {
        RollupStore x = some();
        all(x, Checks.EVERY, new int[] {6, -21, -40, 30, 4});
        all(x, Checks.filter(1, 15, 0, 0, 15), new int[] {2, 40, 10, 30, 1});
        all(x, Checks.filter(2, 15, 0, 0, 15), new int[] {2, -60, -40, -20, 2});
        all(x, Checks.filter(15, 1, 0, 0, 15), new int[] {3, 20, -20, 30, 2});
        all(x, Checks.filter(8, 8, 0, 15, 15), new int[] {2, -1, -1, 0, 1});
    }

    private static void nothingPasses() {
        int none = RollupStore.NONE;
        int[] nothing = {0, 0, none, none, 0};
        RollupStore x = some();
        all(x, Checks.NOTHING, nothing);
        all(x, Checks.filter(4, 15, 0, 0, 15), nothing);
        all(x, Checks.filter(15, 2, 0, 0, 15), nothing);
        all(x, Checks.filter(15, 15, 0, 2, 14), nothing);
        all(x, Checks.filter(15, 15, 2, 0, 15), nothing);
        all(x, Checks.filter(15, 15, 3, 0, 15), nothing);
        all(new RollupStore(), Checks.EVERY, nothing);
        all(new RollupStore(), 262143, nothing);
        all(new RollupStore(), 0, nothing);
    }

    /** One event at a time, against every pair of sets, in every mode. */
    private static void modes() {
        for (int sort = 0; sort < 16; sort++) {
            int place = sort / 4;
            int kind = sort % 4;
            for (int mode = 0; mode < 4; mode++) {
                RollupStore x = new RollupStore();
                x.take(20, place, kind, 9);
                for (int sets = 0; sets < 256; sets++) {
                    boolean inPlaces = (sets & 1 << place) != 0;
                    boolean inKinds = (sets & 16 << kind) != 0;
                    boolean[] passes = {inPlaces && inKinds, inPlaces || inKinds,
                        !(inPlaces && inKinds), !(inPlaces || inKinds)};
                    int filter = Checks.filter(sets % 16, sets / 16, mode, 0, 15);
                    Checks.due(place + " " + kind + ": count(" + filter + ")",
                        x.count(filter), passes[mode] ? 1 : 0);
                }
            }
        }
    }

    private static void hourRange() {
        for (int hour = 0; hour < 16; hour++) {
            RollupStore x = new RollupStore();
            x.take(4 * hour + 3, 0, 0, 9);
            for (int from = 0; from < 16; from++) {
                for (int to = 0; to < 16; to++) {
                    boolean in = from <= hour && hour <= to;
                    Checks.due("hour " + hour + " in " + from + " .. " + to,
                        x.count(Checks.hours(from, to)), in ? 1 : 0);
                }
            }
        }
        int none = RollupStore.NONE;
        RollupStore x = some();
        // From behind to is a filter all the same, which nothing passes.
        all(x, Checks.hours(15, 0), new int[] {0, 0, none, none, 0});
        all(x, Checks.filter(0, 0, 3, 1, 0), new int[] {0, 0, none, none, 0});
        all(x, Checks.filter(0, 0, 2, 0, 0), new int[] {2, 40, 10, 30, 1});
        all(x, Checks.filter(0, 0, 3, 1, 15), new int[] {4, -61, -40, 0, 3});
    }

    private static void noFilters() {
        RollupStore x = some();
        int[] numbers = {-1, -2, -246015, 262144, 262145, 262144 + Checks.EVERY,
            Integer.MIN_VALUE, Integer.MIN_VALUE + Checks.EVERY, Integer.MAX_VALUE};
        int bad = RollupStore.BAD;
        int none = RollupStore.NONE;
        for (int number : numbers) {
            all(x, number, new int[] {bad, none, none, none, bad});
        }
        Checks.due("the last filter", x.count(262143), 0);
        Checks.due("the first filter", x.count(0), 0);
    }

    private static void refusedChangesNothing() {
        RollupStore x = some();
        all(x, Checks.NO_FILTER_BELOW, new int[] {-1, -1000000, -1000000, -1000000, -1});
        all(x, Checks.NO_FILTER_ABOVE, new int[] {-1, -1000000, -1000000, -1000000, -1});
        all(x, Checks.EVERY, new int[] {6, -21, -40, 30, 4});
        Checks.due("events", x.events(), 6);
        Checks.due("sorts", x.sorts(), 4);
    }
}
