/** Promises 3 (seal) and 4 (forget), and 15 for a refused forget. */
final class ForgetAndSealTest {
    public static void main(String[] args) {
        forgetsOneHour();
        forgetsEveryHour();
        forgottenLeavesNoTrace();
        forgetsAcrossSeals();
        wrongHours();
        sealChangesNoAnswer();
        sealKeepsLimits();
        Checks.end();
    }

    private static void forgetsOneHour() {
        RollupStore x = new RollupStore();
        x.take(7, 1, 1, 1);
        x.take(8, 0, 0, 10);
        x.take(11, 3, 3, 20);
        x.take(9, 0, 0, 30);
        x.take(12, 1, 1, 2);
        Checks.due("forget(2)", x.forget(2), 3);
        Checks.due("events", x.events(), 2);
        Checks.due("sorts", x.sorts(), 2);
        Checks.due("sum", x.sum(Checks.EVERY), 3);
        Checks.due("count of hour 1", x.count(Checks.hours(1, 1)), 1);
        Checks.due("count of hour 2", x.count(Checks.hours(2, 2)), 0);
        Checks.due("count of hour 3", x.count(Checks.hours(3, 3)), 1);
        Checks.due("forget(2) again", x.forget(2), 0);
        Checks.due("events after it", x.events(), 2);
    }

    private static void forgetsEveryHour() {
        RollupStore x = new RollupStore();
        for (int time = 0; time < 64; time++) {
            x.take(time, 3, 3, 1);
            x.take(time, 0, 0, 1);
        }
        for (int hour = 0; hour < 16; hour++) {
            Checks.due("forget(" + hour + ")", x.forget(hour), 8);
            Checks.due("events after " + hour, x.events(), 120 - 8 * hour);
            Checks.due("sorts after " + hour, x.sorts(), 30 - 2 * hour);
        }
    }

    private static void forgottenLeavesNoTrace() {
        RollupStore x = new RollupStore();
        x.take(0, 0, 0, -100);
        x.take(0, 0, 0, 100);
        x.take(0, 0, 0, 60);
        x.forget(0);
        Checks.due("least of nothing", x.least(Checks.EVERY), RollupStore.NONE);
        Checks.due("greatest of nothing", x.greatest(Checks.EVERY), RollupStore.NONE);
        Checks.due("sumFor of nothing", x.sumFor(Checks.EVERY, 0, 0), RollupStore.NONE);
        Checks.due("top of nothing", x.top(Checks.EVERY, 0, 0), RollupStore.BAD);
        Checks.due("take anew", x.take(0, 0, 0, 5), 1);
        Checks.due("sum anew", x.sum(Checks.EVERY), 5);
        Checks.due("least anew", x.least(Checks.EVERY), 5);
        Checks.due("greatest anew", x.greatest(Checks.EVERY), 5);
        Checks.due("sumFor anew", x.sumFor(Checks.EVERY, 1, 0), 5);
    }

    private static void forgetsAcrossSeals() {
        RollupStore x = new RollupStore();
        x.take(0, 0, 0, 1);
        x.seal();
        x.take(0, 0, 0, 2);
        x.seal();
        x.take(1, 1, 0, 4);
        Checks.due("forget over three parts", x.forget(0), 3);
        Checks.due("events", x.events(), 0);
        Checks.due("sorts", x.sorts(), 0);
    }

    private static void wrongHours() {
        RollupStore x = new RollupStore();
        x.take(0, 0, 0, 1);
        x.take(63, 3, 3, 1);
        int[] hours = {-1, 16, 17, 63, Integer.MIN_VALUE, Integer.MAX_VALUE};
        for (int hour : hours) {
            Checks.due("forget(" + hour + ")", x.forget(hour), RollupStore.BAD);
        }
        Checks.due("events after the refused", x.events(), 2);
        Checks.due("sorts after the refused", x.sorts(), 2);
    }

    private static void sealChangesNoAnswer() {
        RollupStore x = new RollupStore();
        x.seal();
        Checks.due("events of an empty sealed one", x.events(), 0);
        for (int i = 0; i < 30; i++) {
            x.take(i * 7 % 64, i % 4, i % 3, i - 15);
        }
        String before = answers(x);
        x.seal();
        Checks.holds("one seal changes nothing", before.equals(answers(x)));
        x.seal();
        x.seal();
        Checks.holds("three seals change nothing", before.equals(answers(x)));
        Checks.due("take before the next part", x.take(40, 3, 3, 1), 1);
        x.seal();
        Checks.due("take in the next part", x.take(40, 3, 3, 1), 2);
        Checks.due("sorts over the parts", x.sortsPassing(Checks.filter(8, 8, 0, 10, 10)), 1);
    }

    private static String answers(RollupStore x) {
        StringBuilder text = new StringBuilder();
        text.append(x.events()).append(' ').append(x.sorts());
        for (int mode = 0; mode < 4; mode++) {
            int filter = Checks.filter(5, 6, mode, 2, 13);
            text.append(' ').append(x.count(filter)).append(' ').append(x.sum(filter));
            text.append(' ').append(x.least(filter)).append(' ').append(x.greatest(filter));
            text.append(' ').append(x.sortsPassing(filter)).append(' ').append(x.gaps(filter));
            for (int by = 0; by < 3; by++) {
                text.append(' ').append(x.sumFor(filter, by, 2));
                text.append(' ').append(x.top(filter, by, 0)).append(' ').append(x.top(filter, by, 2));
            }
        }
        return text.toString();
    }

    private static void sealKeepsLimits() {
        RollupStore x = new RollupStore();
        for (int i = 0; i < 40; i++) {
            Checks.due("sort " + i, x.take(i / 16 * 4, i / 4 % 4, i % 4, 2), 1);
            x.seal();
        }
        Checks.due("41st sort in a new part", x.take(63, 0, 0, 2), RollupStore.FULL);
        for (int i = 40; i < 400; i++) {
            x.take(0, 0, 0, 1);
        }
        x.seal();
        Checks.due("401st event in a new part", x.take(0, 0, 0, 1), RollupStore.FULL);
        Checks.due("events in a new part", x.events(), 400);
    }
}
