import java.util.LinkedHashMap;
import java.util.Map;
import java.util.TreeSet;

/**
 * What the edge tests share: the numbers outside a range, objects filled to their limits, and a
 * look at all that an object answers. Each object stays within its 512 calls: a full one has 400
 * behind it, and alike makes ALIKE_CALLS more.
 */
final class Edge {
    static final int BAD = RollupStore.BAD;
    static final int FULL = RollupStore.FULL;
    static final int NONE = RollupStore.NONE;
    static final int ALIKE_CALLS = 89;

    private static final int[] LOOKS = {Checks.EVERY, Checks.filter(5, 3, 1, 0, 15),
        Checks.filter(1, 1, 2, 1, 14), Checks.filter(8, 8, 3, 0, 7)};

    private Edge() {
    }

    /**
     * Numbers outside first .. last: the next one on both sides, the farthest an int reaches, and
     * those that a lost high bit would bring back inside.
     */
    static int[] outside(int first, int last) {
        TreeSet<Integer> found = new TreeSet<>();
        found.add(first - 1);
        found.add(last + 1);
        found.add(Integer.MIN_VALUE);
        found.add(Integer.MAX_VALUE);
        for (int bit = 0; bit < 32; bit++) {
            for (int start : new int[] {first, last}) {
                found.add(start + (1 << bit));
                found.add(start - (1 << bit));
            }
        }
        found.removeIf(number -> number >= first && number <= last);
        return found.stream().mapToInt(number -> number).toArray();
    }

    static int[] noFilters() {
        return outside(0, 262143);
    }

    /** Takes an event of the i-th of the 256 sorts, these being well mixed. */
    static int takeOfSort(RollupStore x, int i, int amount) {
        int number = i * 101 % 256;
        return x.take(number / 16 * 4 + i % 4, number / 4 % 4, number % 4, amount);
    }

    static RollupStore one() {
        RollupStore x = new RollupStore();
        x.take(4, 1, 1, 7);
        return x;
    }

    /** Some events, the hours 0 and 15, places 0 and 3 and kinds 0 and 3 among them. */
    static RollupStore some() {
        RollupStore x = new RollupStore();
        x.take(0, 0, 0, 10);
        x.take(3, 0, 0, 30);
        x.take(4, 1, 0, -20);
        x.take(29, 1, 2, -40);
        x.take(30, 3, 0, 40);
        x.take(60, 0, 3, 0);
        x.take(63, 3, 3, -1);
        return x;
    }

    /** 400 events of the sorts 0 .. number - 1 in turn. */
    static RollupStore fullOfEvents(int number, int amount) {
        RollupStore x = new RollupStore();
        for (int i = 0; i < 400; i++) {
            takeOfSort(x, i % number, amount);
        }
        return x;
    }

    /** One event of each of the sorts 0 .. number - 1. */
    static RollupStore ofSorts(int number, int amount) {
        RollupStore x = new RollupStore();
        for (int i = 0; i < number; i++) {
            takeOfSort(x, i, amount);
        }
        return x;
    }

    /** One event with amount 1 in each of these hours. */
    static RollupStore ofHours(int... hours) {
        RollupStore x = new RollupStore();
        for (int hour : hours) {
            x.take(4 * hour, 0, 0, 1);
        }
        return x;
    }

    /** All that is answered without a change. */
    static Map<String, Integer> look(RollupStore x) {
        Map<String, Integer> seen = new LinkedHashMap<>();
        seen.put("events()", x.events());
        seen.put("sorts()", x.sorts());
        for (int filter : LOOKS) {
            seen.put("count(" + filter + ")", x.count(filter));
            seen.put("sum(" + filter + ")", x.sum(filter));
            seen.put("least(" + filter + ")", x.least(filter));
            seen.put("greatest(" + filter + ")", x.greatest(filter));
            seen.put("sortsPassing(" + filter + ")", x.sortsPassing(filter));
            seen.put("gaps(" + filter + ")", x.gaps(filter));
            for (int by = 0; by < 3; by++) {
                String with = "(" + filter + ", " + by + ", ";
                seen.put("sumFor" + with + "1)", x.sumFor(filter, by, 1));
                seen.put("top" + with + "0)", x.top(filter, by, 0));
                seen.put("top" + with + "1)", x.top(filter, by, 1));
            }
        }
        return seen;
    }

    /** The answers of calls that change the object, up to its being empty and taking anew. */
    static Map<String, Integer> goOn(RollupStore x) {
        Map<String, Integer> seen = new LinkedHashMap<>();
        seen.put("take of the first sort", takeOfSort(x, 0, -3));
        seen.put("take of the 40th sort", takeOfSort(x, 39, 5));
        seen.put("take of the 41st sort", takeOfSort(x, 40, 9));
        seen.put("events() after takes", x.events());
        seen.put("sorts() after takes", x.sorts());
        for (int hour = 0; hour < 16; hour++) {
            seen.put("forget(" + hour + ")", x.forget(hour));
        }
        seen.put("events() after forgets", x.events());
        seen.put("sorts() after forgets", x.sorts());
        seen.put("take at the end", takeOfSort(x, 0, 1));
        seen.put("sum() at the end", x.sum(Checks.EVERY));
        seen.put("least() at the end", x.least(Checks.EVERY));
        seen.put("greatest() at the end", x.greatest(Checks.EVERY));
        return seen;
    }

    /** Every call that follows is answered by x as by y. */
    static void alike(String after, RollupStore x, RollupStore y) {
        same(after, look(x), look(y));
        same(after, goOn(x), goOn(y));
    }

    static void same(String after, Map<String, Integer> got, Map<String, Integer> want) {
        for (String call : want.keySet()) {
            Checks.due(after + ", then " + call, got.get(call), want.get(call));
        }
    }
}
