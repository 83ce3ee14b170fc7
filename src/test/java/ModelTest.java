import java.util.Random;

/** Long mixed runs of 512 calls, the class held against the model, always the same runs. */
final class ModelTest {
    private static final int RUNS = 600;
    private static final int CALLS = 512;
    private static final int[] ODD = {-1, 3, 4, 16, 64, 101, -101, 262144, -262144,
        Integer.MIN_VALUE, Integer.MAX_VALUE};

    public static void main(String[] args) {
        for (int run = 0; run < RUNS; run++) {
            oneRun(run);
        }
        Checks.end();
    }

    private static void oneRun(int run) {
        Random random = new Random(run);
        RollupStore x = new RollupStore();
        Model model = new Model();
        // Some runs fill up with events, some with sorts, some stay small by much forgetting.
        int takes = 20 + 13 * (run % 6);
        int forgets = run % 4;
        int spread = 1 + run % 4;
        for (int call = 0; call < CALLS; call++) {
            String name = "run " + run + " call " + call + ": ";
            int dice = random.nextInt(100);
            if (dice < takes) {
                take(name, x, model, random, spread);
            } else if (dice < takes + forgets) {
                int hour = number(random, 16);
                Checks.due(name + "forget(" + hour + ")", x.forget(hour), model.forget(hour));
            } else {
                ask(name, x, model, random);
            }
        }
    }

    /** A number below the bound, seldom an odd one that may lie outside. */
    private static int number(Random random, int bound) {
        return random.nextInt(50) == 0 ? ODD[random.nextInt(ODD.length)] : random.nextInt(bound);
    }

    private static void take(String name, RollupStore x, Model model, Random random, int spread) {
        int time = number(random, 16 * spread);
        int place = number(random, spread);
        int kind = number(random, 4);
        int amount = number(random, 201);
        amount = amount >= 0 && amount <= 200 ? amount - 100 : amount;
        Checks.due(name + "take(" + time + ", " + place + ", " + kind + ", " + amount + ")",
            x.take(time, place, kind, amount), model.take(time, place, kind, amount));
    }

    private static int anyFilter(Random random) {
        if (random.nextInt(3) > 0) {
            return Checks.filter(random.nextInt(16), random.nextInt(16), random.nextInt(4),
                random.nextInt(4), 15 - random.nextInt(4));
        }
        return number(random, 262144);
    }

    private static void ask(String name, RollupStore x, Model model, Random random) {
        int filter = anyFilter(random);
        int by = number(random, 3);
        int value = number(random, by == 0 ? 16 : 4);
        String call = name + "with " + filter + ", " + by + ", " + value + ": ";
        switch (random.nextInt(11)) {
            case 0 -> Checks.due(call + "events", x.events(), model.events());
            case 1 -> Checks.due(call + "sorts", x.sorts(), model.sorts());
            case 2 -> Checks.due(call + "count", x.count(filter), model.count(filter));
            case 3 -> Checks.due(call + "sum", x.sum(filter), model.sum(filter));
            case 4 -> Checks.due(call + "least", x.least(filter), model.least(filter));
            case 5 -> Checks.due(call + "greatest", x.greatest(filter), model.greatest(filter));
            case 6 -> Checks.due(call + "sortsPassing", x.sortsPassing(filter),
                model.sortsPassing(filter));
            case 7 -> Checks.due(call + "sumFor", x.sumFor(filter, by, value),
                model.sumFor(filter, by, value));
            case 8 -> Checks.due(call + "top", x.top(filter, by, value),
                model.top(filter, by, value));
            case 9 -> Checks.due(call + "gaps", x.gaps(filter), model.gaps(filter));
            default -> x.seal();
        }
    }
}
