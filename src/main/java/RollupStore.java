/**
 * Takes measured events in, adds like ones together, and answers questions about them.
 *
 * Whether an event passes a filter, and whether it is forgotten, hangs on its sort alone. So no
 * single event is kept: each sort has its number of events, their sum, and their least and
 * greatest amount.
 */
public final class RollupStore {
    public static final int NONE = -1000000;
    public static final int BAD = -1;
    public static final int FULL = -2;

    private static final int MAX_EVENTS = 400;
    private static final int MAX_SORTS = 40;

    private static final int LAST_TIME = 63;
    private static final int TIMES_PER_HOUR = 4;
    private static final int HOURS = 16;
    private static final int LAST_PLACE = 3;
    private static final int LAST_KIND = 3;
    private static final int GREATEST_AMOUNT = 100;

    private static final int BY_HOUR = 0;
    private static final int BY_PLACE = 1;
    private static final int BY_KIND = 2;

    // A sort is numbered 16 * hour + 4 * place + kind.
    private static final int SORTS_PER_HOUR = 16;
    private static final int SORT_NUMBERS = 256;

    // The parts of a filter fill 18 bits without a hole, so each number up to here is a filter.
    private static final int LAST_FILTER = 262143;

    private static final int IN_BOTH = 0;
    private static final int IN_EITHER = 1;
    private static final int NOT_IN_BOTH = 2;

    // The sum, least and greatest amount of a sort mean something only while its count is above 0.
    private final int[] counts = new int[SORT_NUMBERS];
    private final int[] sums = new int[SORT_NUMBERS];
    private final int[] leasts = new int[SORT_NUMBERS];
    private final int[] greatests = new int[SORT_NUMBERS];
    private int eventTotal = 0;
    private int sortTotal = 0;

    // Working room of top and gaps, filled anew by each of their calls. Hours are the most
    // numerous of what events are grouped by.
    private final int[] groupCounts = new int[HOURS];
    private final int[] groupSums = new int[HOURS];

    public RollupStore() {
    }

    public int take(int time, int place, int kind, int amount) {
        if (!isEvent(time, place, kind, amount)) {
            return BAD;
        }
        int sort = time / TIMES_PER_HOUR * SORTS_PER_HOUR + 4 * place + kind;
        if (!hasRoomFor(sort)) {
            return FULL;
        }
        addToSort(sort, amount);
        return counts[sort];
    }

    public void seal() {
        // Like events are added together as they come, whatever part they belong to, and no answer
        // tells parts apart: there is nothing to close.
    }

    public int forget(int hour) {
        if (hour < 0 || hour >= HOURS) {
            return BAD;
        }
        int forgotten = 0;
        int first = hour * SORTS_PER_HOUR;
        for (int sort = first; sort < first + SORTS_PER_HOUR; sort++) {
            if (counts[sort] > 0) {
                forgotten += counts[sort];
                sortTotal--;
                counts[sort] = 0;
            }
        }
        eventTotal -= forgotten;
        return forgotten;
    }

    public int events() {
        return eventTotal;
    }

    public int sorts() {
        return sortTotal;
    }

    public int count(int filter) {
        if (!isFilter(filter)) {
            return BAD;
        }
        int total = 0;
        for (int sort = 0; sort < SORT_NUMBERS; sort++) {
            if (hasPassing(sort, filter)) {
                total += counts[sort];
            }
        }
        return total;
    }

    public int sum(int filter) {
        if (!isFilter(filter)) {
            return NONE;
        }
        int total = 0;
        for (int sort = 0; sort < SORT_NUMBERS; sort++) {
            if (hasPassing(sort, filter)) {
                total += sums[sort];
            }
        }
        return total;
    }

    public int least(int filter) {
        if (!isFilter(filter)) {
            return NONE;
        }
        boolean found = false;
        int best = NONE;
        for (int sort = 0; sort < SORT_NUMBERS; sort++) {
            if (hasPassing(sort, filter) && (!found || leasts[sort] < best)) {
                found = true;
                best = leasts[sort];
            }
        }
        return best;
    }

    public int greatest(int filter) {
        if (!isFilter(filter)) {
            return NONE;
        }
        boolean found = false;
        int best = NONE;
        for (int sort = 0; sort < SORT_NUMBERS; sort++) {
            if (hasPassing(sort, filter) && (!found || greatests[sort] > best)) {
                found = true;
                best = greatests[sort];
            }
        }
        return best;
    }

    public int sortsPassing(int filter) {
        if (!isFilter(filter)) {
            return BAD;
        }
        int total = 0;
        for (int sort = 0; sort < SORT_NUMBERS; sort++) {
            if (hasPassing(sort, filter)) {
                total++;
            }
        }
        return total;
    }

    public int sumFor(int filter, int by, int value) {
        if (!isFilter(filter) || !isGrouping(by)) {
            return NONE;
        }
        boolean found = false;
        int total = 0;
        for (int sort = 0; sort < SORT_NUMBERS; sort++) {
            if (groupOf(sort, by) == value && hasPassing(sort, filter)) {
                found = true;
                total += sums[sort];
            }
        }
        return found ? total : NONE;
    }

    public int top(int filter, int by, int n) {
        if (!isFilter(filter) || !isGrouping(by) || n < 0) {
            return BAD;
        }
        gatherGroups(filter, by);
        for (int value = 0; value < HOURS; value++) {
            if (groupCounts[value] > 0 && groupsBefore(value) == n) {
                return value;
            }
        }
        return BAD;
    }

    public int gaps(int filter) {
        if (!isFilter(filter)) {
            return BAD;
        }
        gatherGroups(filter, BY_HOUR);
        int total = 0;
        int emptySinceLast = 0;
        boolean found = false;
        for (int hour = 0; hour < HOURS; hour++) {
            if (groupCounts[hour] > 0) {
                // Empty hours are a gap only once a later hour closes them.
                total += emptySinceLast;
                emptySinceLast = 0;
                found = true;
            } else if (found) {
                emptySinceLast++;
            }
        }
        return total;
    }

    private static boolean isEvent(int time, int place, int kind, int amount) {
        return time >= 0 && time <= LAST_TIME
            && place >= 0 && place <= LAST_PLACE
            && kind >= 0 && kind <= LAST_KIND
            && amount >= -GREATEST_AMOUNT && amount <= GREATEST_AMOUNT;
    }

    private static boolean isFilter(int filter) {
        return filter >= 0 && filter <= LAST_FILTER;
    }

    private static boolean isGrouping(int by) {
        return by >= BY_HOUR && by <= BY_KIND;
    }

    private boolean hasRoomFor(int sort) {
        return eventTotal < MAX_EVENTS && (counts[sort] > 0 || sortTotal < MAX_SORTS);
    }

    private void addToSort(int sort, int amount) {
        if (counts[sort] == 0) {
            sortTotal++;
            sums[sort] = 0;
            leasts[sort] = amount;
            greatests[sort] = amount;
        }
        eventTotal++;
        counts[sort]++;
        sums[sort] += amount;
        if (amount < leasts[sort]) {
            leasts[sort] = amount;
        }
        if (amount > greatests[sort]) {
            greatests[sort] = amount;
        }
    }

    /** The hour, place or kind of a sort. */
    private static int groupOf(int sort, int by) {
        if (by == BY_HOUR) {
            return sort / SORTS_PER_HOUR;
        }
        return by == BY_PLACE ? sort / 4 % 4 : sort % 4;
    }

    private boolean hasPassing(int sort, int filter) {
        return counts[sort] > 0 && hourPasses(sort, filter) && placeAndKindPass(sort, filter);
    }

    private static boolean hourPasses(int sort, int filter) {
        int hour = groupOf(sort, BY_HOUR);
        int from = filter / 1024 % 16;
        int to = filter / 16384 % 16;
        return from <= hour && hour <= to;
    }

    private static boolean placeAndKindPass(int sort, int filter) {
        int place = groupOf(sort, BY_PLACE);
        int kind = groupOf(sort, BY_KIND);
        int places = filter % 16;
        int kinds = filter / 16 % 16;
        int mode = filter / 256 % 4;
        boolean inPlaces = (places >> place & 1) == 1;
        boolean inKinds = (kinds >> kind & 1) == 1;
        if (mode == IN_BOTH) {
            return inPlaces && inKinds;
        }
        if (mode == IN_EITHER) {
            return inPlaces || inKinds;
        }
        if (mode == NOT_IN_BOTH) {
            return !(inPlaces && inKinds);
        }
        return !inPlaces && !inKinds;
    }

    private void gatherGroups(int filter, int by) {
        for (int value = 0; value < HOURS; value++) {
            groupCounts[value] = 0;
            groupSums[value] = 0;
        }
        for (int sort = 0; sort < SORT_NUMBERS; sort++) {
            if (hasPassing(sort, filter)) {
                int value = groupOf(sort, by);
                groupCounts[value] += counts[sort];
                groupSums[value] += sums[sort];
            }
        }
    }

    /** How many of the gathered groups come before this one in the order of top. */
    private int groupsBefore(int value) {
        int before = 0;
        for (int other = 0; other < HOURS; other++) {
            boolean ahead = groupSums[other] > groupSums[value]
                || groupSums[other] == groupSums[value] && other < value;
            if (groupCounts[other] > 0 && ahead) {
                before++;
            }
        }
        return before;
    }
}
