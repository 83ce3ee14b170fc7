/** Promises 12 (sumFor), 13 (top) and 14 (gaps). */
final class GroupTest {
    public static void main(String[] args) {
        sumForOrdinary();
        sumForNone();
        topOrdinary();
        topOfEqualSums();
        topOfAllHours();
        topBad();
        gapsOrdinary();
        gapsOfPassingAlone();
        gapsBad();
        Checks.end();
    }

    private static RollupStore some() {
        RollupStore x = new RollupStore();
        x.take(0, 0, 3, 10);
        x.take(8, 0, 2, -30);
        x.take(9, 1, 2, 25);
        x.take(40, 3, 0, 7);
        x.take(41, 3, 0, -7);
        x.take(60, 1, 3, -50);
        return x;
    }

    private static void sumForOrdinary() {
        RollupStore x = some();
        Checks.due("hour 0", x.sumFor(Checks.EVERY, 0, 0), 10);
        Checks.due("hour 2", x.sumFor(Checks.EVERY, 0, 2), -5);
        Checks.due("hour 10, a sum of 0", x.sumFor(Checks.EVERY, 0, 10), 0);
        Checks.due("hour 15", x.sumFor(Checks.EVERY, 0, 15), -50);
        Checks.due("place 0", x.sumFor(Checks.EVERY, 1, 0), -20);
        Checks.due("place 1", x.sumFor(Checks.EVERY, 1, 1), -25);
        Checks.due("place 3, a sum of 0", x.sumFor(Checks.EVERY, 1, 3), 0);
        Checks.due("kind 0", x.sumFor(Checks.EVERY, 2, 0), 0);
        Checks.due("kind 2", x.sumFor(Checks.EVERY, 2, 2), -5);
        Checks.due("kind 3", x.sumFor(Checks.EVERY, 2, 3), -40);
        Checks.due("kind 3 in hours 0 .. 14", x.sumFor(Checks.hours(0, 14), 2, 3), 10);
        Checks.due("hour 2 in place 1", x.sumFor(Checks.filter(2, 15, 0, 0, 15), 0, 2), 25);
        Checks.due("hour 2 not in place 1", x.sumFor(Checks.filter(2, 15, 2, 0, 15), 0, 2), -30);
    }

    private static void sumForNone() {
        RollupStore x = some();
        int none = RollupStore.NONE;
        Checks.due("hour without events", x.sumFor(Checks.EVERY, 0, 1), none);
        Checks.due("place without events", x.sumFor(Checks.EVERY, 1, 2), none);
        Checks.due("kind without events", x.sumFor(Checks.EVERY, 2, 1), none);
        Checks.due("place without passing ones", x.sumFor(Checks.hours(0, 9), 1, 3), none);
        int[] values = {-1, 16, 4, 64, 256, Integer.MIN_VALUE, Integer.MAX_VALUE};
        int[] wrongBys = {-1, 3, 4, Integer.MIN_VALUE, Integer.MAX_VALUE};
        for (int value : values) {
            for (int by = 0; by < 3; by++) {
                Checks.due("by " + by + " value " + value, x.sumFor(Checks.EVERY, by, value), none);
            }
        }
        for (int by : wrongBys) {
            Checks.due("sumFor by " + by, x.sumFor(Checks.EVERY, by, 0), none);
        }
        Checks.due("no filter below", x.sumFor(Checks.NO_FILTER_BELOW, 0, 0), none);
        Checks.due("no filter above", x.sumFor(Checks.NO_FILTER_ABOVE, 0, 0), none);
        Checks.due("far no filter", x.sumFor(Integer.MIN_VALUE + Checks.EVERY, 0, 0), none);
        Checks.due("events after the refused", x.events(), 6);
    }

    private static void order(RollupStore x, int filter, int by, int... want) {
        String name = "top(" + filter + ", " + by + ", ";
        for (int n = 0; n < want.length; n++) {
            Checks.due(name + n + ")", x.top(filter, by, n), want[n]);
        }
        Checks.due(name + want.length + ")", x.top(filter, by, want.length), RollupStore.BAD);
        Checks.due(name + "far)", x.top(filter, by, Integer.MAX_VALUE), RollupStore.BAD);
        Checks.due(name + "-1)", x.top(filter, by, -1), RollupStore.BAD);
    }

    private static void topOrdinary() {
        RollupStore x = some();
        order(x, Checks.EVERY, 0, 0, 10, 2, 15);
        order(x, Checks.EVERY, 1, 3, 0, 1);
        order(x, Checks.EVERY, 2, 0, 2, 3);
        order(x, Checks.hours(0, 14), 1, 1, 3, 0);
        order(x, Checks.hours(0, 14), 2, 3, 0, 2);
        order(x, Checks.filter(2, 15, 0, 0, 15), 0, 2, 15);
        order(x, Checks.filter(2, 15, 2, 0, 15), 0, 0, 10, 2);
        order(x, Checks.NOTHING, 0);
        // The order is anew after each change.
        x.forget(15);
        order(x, Checks.EVERY, 1, 1, 3, 0);
        x.take(4, 2, 1, -100);
        order(x, Checks.EVERY, 1, 1, 3, 0, 2);
    }

    private static void topOfEqualSums() {
        RollupStore x = new RollupStore();
        x.take(60, 3, 2, 5);
        x.take(20, 1, 3, 2);
        x.take(20, 1, 3, 3);
        x.take(4, 2, 0, 5);
        x.take(12, 0, 1, 6);
        order(x, Checks.EVERY, 0, 3, 1, 5, 15);
        order(x, Checks.EVERY, 1, 0, 1, 2, 3);
        order(x, Checks.EVERY, 2, 1, 0, 2, 3);
        RollupStore zeros = new RollupStore();
        zeros.take(63, 3, 3, 0);
        zeros.take(16, 1, 2, 0);
        order(zeros, Checks.EVERY, 0, 4, 15);
        order(zeros, Checks.EVERY, 1, 1, 3);
        order(zeros, Checks.EVERY, 2, 2, 3);
        RollupStore belowZero = new RollupStore();
        belowZero.take(63, 2, 1, -100);
        order(belowZero, Checks.EVERY, 0, 15);
        order(belowZero, Checks.EVERY, 1, 2);
        order(belowZero, Checks.EVERY, 2, 1);
    }

    private static void topOfAllHours() {
        RollupStore x = new RollupStore();
        for (int hour = 0; hour < 16; hour++) {
            x.take(4 * hour, 0, 0, hour * 7 % 16 - 8);
        }
        int[] want = new int[16];
        for (int hour = 0; hour < 16; hour++) {
            want[15 - hour * 7 % 16] = hour;
        }
        order(x, Checks.EVERY, 0, want);
    }

    private static void topBad() {
        RollupStore x = some();
        int bad = RollupStore.BAD;
        int[] wrongBys = {-1, 3, 4, Integer.MIN_VALUE, Integer.MAX_VALUE};
        for (int by : wrongBys) {
            Checks.due("top by " + by, x.top(Checks.EVERY, by, 0), bad);
        }
        Checks.due("n far below", x.top(Checks.EVERY, 0, Integer.MIN_VALUE), bad);
        Checks.due("no filter below", x.top(Checks.NO_FILTER_BELOW, 0, 0), bad);
        Checks.due("no filter above", x.top(Checks.NO_FILTER_ABOVE + Checks.EVERY, 0, 0), bad);
        Checks.due("far no filter", x.top(Integer.MIN_VALUE + Checks.EVERY, 0, 0), bad);
        order(x, Checks.EVERY, 0, 0, 10, 2, 15);
    }

    private static void gapsOrdinary() {
        RollupStore x = new RollupStore();
        Checks.due("gaps of nothing", x.gaps(Checks.EVERY), 0);
        x.take(20, 0, 0, 1);
        Checks.due("gaps of one hour", x.gaps(Checks.EVERY), 0);
        x.take(24, 1, 0, 1);
        Checks.due("gaps of two neighbours", x.gaps(Checks.EVERY), 0);
        x.take(36, 1, 0, 1);
        Checks.due("gaps of 5, 6, 9", x.gaps(Checks.EVERY), 2);
        x.take(0, 1, 0, -1);
        Checks.due("gaps of 0, 5, 6, 9", x.gaps(Checks.EVERY), 6);
        x.take(63, 1, 0, 0);
        Checks.due("gaps of 0, 5, 6, 9, 15", x.gaps(Checks.EVERY), 11);
        x.forget(5);
        x.forget(6);
        Checks.due("gaps of 0, 9, 15", x.gaps(Checks.EVERY), 13);
        x.forget(9);
        Checks.due("gaps of 0, 15", x.gaps(Checks.EVERY), 14);
        x.forget(0);
        Checks.due("gaps of 15", x.gaps(Checks.EVERY), 0);
    }

    private static void gapsOfPassingAlone() {
        RollupStore x = new RollupStore();
        for (int hour = 0; hour < 16; hour++) {
            x.take(4 * hour, hour % 2, 0, 1);
        }
        Checks.due("gaps of every hour", x.gaps(Checks.EVERY), 0);
        Checks.due("gaps of even hours", x.gaps(Checks.filter(1, 15, 0, 0, 15)), 7);
        Checks.due("gaps of odd hours", x.gaps(Checks.filter(1, 15, 2, 0, 15)), 7);
        Checks.due("gaps of 4, 6, 8", x.gaps(Checks.filter(1, 15, 0, 3, 9)), 2);
        Checks.due("gaps of none", x.gaps(Checks.filter(4, 15, 0, 0, 15)), 0);
        Checks.due("gaps of no hours", x.gaps(Checks.hours(9, 8)), 0);
    }

    private static void gapsBad() {
        RollupStore x = some();
        int[] numbers = {-1, 262144, 262144 + Checks.EVERY, Integer.MIN_VALUE,
            Integer.MIN_VALUE + Checks.EVERY, Integer.MAX_VALUE};
        for (int number : numbers) {
            Checks.due("gaps(" + number + ")", x.gaps(number), RollupStore.BAD);
        }
        Checks.due("gaps after the refused", x.gaps(Checks.EVERY), 12);
    }
}
