/** The sentences of promises 12 (sumFor), 13 (top) and 14 (gaps), at their bounds. */
final class GroupEdgeTest {
    private static final int[] LAST_VALUES = {15, 3, 3};

    public static void main(String[] args) {
        sumForValue();
        sumForNoneThere();
        sumForWrongBy();
        sumForNoFilter();
        topIsTheNth();
        topGreatestFirst();
        topEqualOnes();
        topNotSoMany();
        topNegative();
        topWrongBy();
        topNoFilter();
        gapsBetween();
        gapsOfThosePassing();
        gapsOfNone();
        gapsNoFilter();
        Checks.end();
    }

    /** An event whose hour, place or kind (by) is this value, the others being 1. */
    private static void takeWith(RollupStore x, int by, int value, int amount) {
        x.take(by == 0 ? 4 * value : 4, by == 1 ? value : 1, by == 2 ? value : 1, amount);
    }

    private static void sumForValue() {
        Checks.sentence("Promise 12", "The sum of the amounts of the events that pass and whose"
            + " hour (by 0), place (by 1) or kind (by 2) is value");
        for (int by = 0; by <= 2; by++) {
            RollupStore x = new RollupStore();
            for (int value = 0; value <= LAST_VALUES[by]; value++) {
                takeWith(x, by, value, 1 << value % 7);
                takeWith(x, by, value, -50);
            }
            for (int value = 0; value <= LAST_VALUES[by]; value++) {
                Checks.due("by " + by + ", value " + value, x.sumFor(Checks.EVERY, by, value),
                    (1 << value % 7) - 50);
            }
            for (int amount : new int[] {-100, 100}) {
                Checks.due("all 400, by " + by, Edge.fullOfEvents(1, amount)
                    .sumFor(Checks.EVERY, by, 0), 400 * amount);
            }
            RollupStore zero = new RollupStore();
            takeWith(zero, by, LAST_VALUES[by], 0);
            Checks.due("a sum of 0 is no NONE, by " + by,
                zero.sumFor(Checks.EVERY, by, LAST_VALUES[by]), 0);
        }
    }

    private static void sumForNoneThere() {
        Checks.sentence("Promise 12", "NONE when there is none");
        for (int by = 0; by <= 2; by++) {
            RollupStore x = Edge.some();
            for (int value : Edge.outside(0, LAST_VALUES[by])) {
                Checks.due("by " + by + ", no event has " + value,
                    x.sumFor(Checks.EVERY, by, value), Edge.NONE);
            }
            Edge.alike("after values outside, by " + by, x, Edge.some());
            for (int value = 0; value <= LAST_VALUES[by]; value++) {
                Checks.due("none there, by " + by + ", " + value,
                    new RollupStore().sumFor(Checks.EVERY, by, value), Edge.NONE);
                Checks.due("none passes, by " + by + ", " + value,
                    Edge.some().sumFor(Checks.NOTHING, by, value), Edge.NONE);
                RollupStore only = new RollupStore();
                takeWith(only, by, value, 9);
                for (int other = 0; other <= LAST_VALUES[by]; other++) {
                    Checks.due(value + " alone there, by " + by + ", " + other,
                        only.sumFor(Checks.EVERY, by, other), other == value ? 9 : Edge.NONE);
                }
            }
        }
        RollupStore y = Edge.one();
        Checks.due("there, but does not pass", y.sumFor(Checks.hours(2, 15), 1, 1), Edge.NONE);
        y.forget(1);
        Checks.due("forgotten", y.sumFor(Checks.EVERY, 1, 1), Edge.NONE);
    }

    private static void sumForWrongBy() {
        Checks.sentence("Promise 12", "NONE when [..] by is not 0 .. 2");
        RollupStore x = Edge.some();
        for (int by : Edge.outside(0, 2)) {
            Checks.due("sumFor by " + by, x.sumFor(Checks.EVERY, by, 0), Edge.NONE);
            Checks.due("sumFor by " + by + " of 3", x.sumFor(Checks.EVERY, by, 3), Edge.NONE);
        }
        Edge.alike("after sumFor with wrong bys", x, Edge.some());
        Checks.due("by 0", Edge.some().sumFor(Checks.EVERY, 0, 0), 40);
        Checks.due("by 2", Edge.some().sumFor(Checks.EVERY, 2, 0), 60);
    }

    private static void sumForNoFilter() {
        Checks.sentence("Promise 12", "NONE when [..] filter is no filter.");
        for (int by = 0; by <= 2; by++) {
            RollupStore x = Edge.some();
            for (int filter : Edge.noFilters()) {
                Checks.due("sumFor(" + filter + ", " + by + ", 0)", x.sumFor(filter, by, 0),
                    Edge.NONE);
            }
            Edge.alike("after sumFor of no filters", x, Edge.some());
        }
        Checks.due("of a new object", new RollupStore().sumFor(-1, 0, 0), Edge.NONE);
        Checks.due("all wrong at once", Edge.some().sumFor(262144, 3, -1), Edge.NONE);
    }

    private static void topIsTheNth() {
        Checks.sentence("Promise 13", "The n-th (0 the first) of the hours (by 0), places (by 1) or"
            + " kinds (by 2) that events that pass have");
        for (int by = 0; by <= 2; by++) {
            int last = LAST_VALUES[by];
            for (int value = 0; value <= last; value++) {
                RollupStore one = new RollupStore();
                takeWith(one, by, value, -100);
                Checks.due("the only one, by " + by, one.top(Checks.EVERY, by, 0), value);
                Checks.due("behind the only one, by " + by, one.top(Checks.EVERY, by, 1), Edge.BAD);
            }
            RollupStore all = new RollupStore();
            for (int value = 0; value <= last; value++) {
                takeWith(all, by, value, -value);
            }
            for (int n = 0; n <= last; n++) {
                Checks.due("all, by " + by + ", n " + n, all.top(Checks.EVERY, by, n), n);
            }
            Checks.due("one more, by " + by, all.top(Checks.EVERY, by, last + 1), Edge.BAD);
        }
        RollupStore x = Edge.ofHours(0, 15);
        x.take(32, 2, 2, 100);
        int first = Checks.filter(1, 15, 0, 0, 15);
        Checks.due("one that does not pass has none", x.top(first, 0, 0), 0);
        Checks.due("the second that passes", x.top(first, 0, 1), 15);
        Checks.due("no third", x.top(first, 0, 2), Edge.BAD);
    }

    private static void topGreatestFirst() {
        Checks.sentence("Promise 13", "when these are put in the order of the sums of those events'"
            + " amounts, the greatest first");
        for (int by = 0; by <= 2; by++) {
            int last = LAST_VALUES[by];
            RollupStore x = new RollupStore();
            // Sums above, at and below 0, with the greatest at the last value.
            for (int value = 0; value <= last; value++) {
                takeWith(x, by, value, 2 * value - last);
            }
            for (int n = 0; n <= last; n++) {
                Checks.due("by " + by + ", n " + n, x.top(Checks.EVERY, by, n), last - n);
            }
            RollupStore far = new RollupStore();
            for (int i = 0; i < 200; i++) {
                takeWith(far, by, 0, -100);
                takeWith(far, by, last, 100);
            }
            Checks.due("20000 before -20000, by " + by, far.top(Checks.EVERY, by, 0), last);
            Checks.due("-20000 behind 20000, by " + by, far.top(Checks.EVERY, by, 1), 0);
            RollupStore near = new RollupStore();
            takeWith(near, by, 1, 100);
            takeWith(near, by, 2, 100);
            takeWith(near, by, 2, 1);
            Checks.due("greater by 1, by " + by, near.top(Checks.EVERY, by, 0), 2);
            takeWith(near, by, 1, 1);
            takeWith(near, by, 1, -100);
            takeWith(near, by, 3, 99);
            Checks.due("many small ones are no greater, by " + by, near.top(Checks.EVERY, by, 2), 1);
        }
        topOfSeveralSorts();
    }

    /** Value 0 has 50 of three sorts, value 1 has 45, and the greatest single amount is of value 1. */
    private static void topOfSeveralSorts() {
        RollupStore x = new RollupStore();
        x.take(0, 0, 0, 10);
        x.take(0, 0, 1, 20);
        x.take(0, 1, 0, 20);
        x.take(4, 0, 0, 20);
        x.take(4, 1, 1, 25);
        for (int by = 0; by <= 2; by++) {
            Checks.due("several sorts, by " + by, x.top(Checks.EVERY, by, 0), 0);
            Checks.due("several sorts, second, by " + by, x.top(Checks.EVERY, by, 1), 1);
        }
    }

    private static void topEqualOnes() {
        Checks.sentence("Promise 13", "equal ones with the least number first");
        for (int by = 0; by <= 2; by++) {
            for (int amount : new int[] {-100, 0, 100}) {
                RollupStore x = new RollupStore();
                for (int value = LAST_VALUES[by]; value >= 0; value--) {
                    takeWith(x, by, value, amount);
                }
                for (int n = 0; n <= LAST_VALUES[by]; n++) {
                    Checks.due("all " + amount + ", by " + by, x.top(Checks.EVERY, by, n), n);
                }
            }
            RollupStore mixed = new RollupStore();
            takeWith(mixed, by, 3, 5);
            takeWith(mixed, by, 1, 2);
            takeWith(mixed, by, 1, 3);
            takeWith(mixed, by, 2, 6);
            takeWith(mixed, by, 0, 4);
            int[] want = {2, 1, 3, 0};
            for (int n = 0; n < 4; n++) {
                Checks.due("mixed, by " + by, mixed.top(Checks.EVERY, by, n), want[n]);
            }
        }
    }

    private static void topNotSoMany() {
        Checks.sentence("Promise 13", "BAD when there are not so many");
        for (int by = 0; by <= 2; by++) {
            Checks.due("none there", new RollupStore().top(Checks.EVERY, by, 0), Edge.BAD);
            Checks.due("none passes", Edge.some().top(Checks.NOTHING, by, 0), Edge.BAD);
            Checks.due("one there, n 0", Edge.one().top(Checks.EVERY, by, 0), 1);
            Checks.due("one there, n 1", Edge.one().top(Checks.EVERY, by, 1), Edge.BAD);
            RollupStore x = new RollupStore();
            for (int value = 0; value <= LAST_VALUES[by]; value++) {
                takeWith(x, by, value, 0);
            }
            int last = LAST_VALUES[by];
            Checks.due("as many as can be", x.top(Checks.EVERY, by, last), last);
            for (int n : Edge.outside(0, last)) {
                if (n > last) {
                    Checks.due("n " + n + ", by " + by, x.top(Checks.EVERY, by, n), Edge.BAD);
                }
            }
            takeWith(x, by, 0, 0);
            Checks.due("still not so many", x.top(Checks.EVERY, by, last + 1), Edge.BAD);
        }
        RollupStore y = Edge.some();
        Checks.due("before forget", y.top(Checks.EVERY, 0, 3), 1);
        y.forget(1);
        Checks.due("after forget", y.top(Checks.EVERY, 0, 3), Edge.BAD);
        Edge.alike("after n too great", goneBeyond(Integer.MAX_VALUE), Edge.some());
    }

    private static RollupStore goneBeyond(int n) {
        RollupStore x = Edge.some();
        for (int by = 0; by <= 2; by++) {
            Checks.due("top by " + by + " n " + n, x.top(Checks.EVERY, by, n), Edge.BAD);
        }
        return x;
    }

    private static void topNegative() {
        Checks.sentence("Promise 13", "BAD when [..] n is negative");
        for (int by = 0; by <= 2; by++) {
            RollupStore x = Edge.some();
            for (int n : Edge.outside(0, Integer.MAX_VALUE)) {
                Checks.due("top by " + by + " n " + n, x.top(Checks.EVERY, by, n), Edge.BAD);
            }
            Checks.due("n 0, by " + by, x.top(Checks.EVERY, by, 0), 0);
        }
        Edge.alike("after n below 0", goneBeyond(-1), Edge.some());
        Edge.alike("after n far below 0", goneBeyond(Integer.MIN_VALUE), Edge.some());
        Checks.due("of a new object", new RollupStore().top(Checks.EVERY, 0, -1), Edge.BAD);
    }

    private static void topWrongBy() {
        Checks.sentence("Promise 13", "BAD when [..] by is not 0 .. 2");
        RollupStore x = Edge.some();
        for (int by : Edge.outside(0, 2)) {
            Checks.due("top by " + by, x.top(Checks.EVERY, by, 0), Edge.BAD);
            Checks.due("top by " + by + " n 1", x.top(Checks.EVERY, by, 1), Edge.BAD);
        }
        Edge.alike("after top with wrong bys", x, Edge.some());
        Checks.due("by 0", Edge.some().top(Checks.EVERY, 0, 0), 0);
        Checks.due("by 1", Edge.some().top(Checks.EVERY, 1, 0), 0);
        Checks.due("by 2", Edge.some().top(Checks.EVERY, 2, 0), 0);
    }

    private static void topNoFilter() {
        Checks.sentence("Promise 13", "BAD when [..] filter is no filter.");
        for (int by = 0; by <= 2; by++) {
            RollupStore x = Edge.some();
            for (int filter : Edge.noFilters()) {
                Checks.due("top(" + filter + ", " + by + ", 0)", x.top(filter, by, 0), Edge.BAD);
            }
            Edge.alike("after top of no filters", x, Edge.some());
        }
        Checks.due("of a new object", new RollupStore().top(-1, 0, 0), Edge.BAD);
        Checks.due("all wrong at once", Edge.some().top(262144, 3, -1), Edge.BAD);
    }

    /** Every pair of hours, the hours between them then filled one by one. */
    private static void gapsBetween() {
        Checks.sentence("Promise 14", "The number of hours from the first to the last hour that"
            + " events that pass have, both included, in which no event that passes lies");
        for (int first = 0; first <= 15; first++) {
            Checks.due("one hour, " + first, Edge.ofHours(first).gaps(Checks.EVERY), 0);
            for (int last = first + 1; last <= 15; last++) {
                RollupStore x = Edge.ofHours(last, first);
                String name = "hours " + first + " and " + last;
                Checks.due(name, x.gaps(Checks.EVERY), last - first - 1);
                for (int between = first + 1; between < last; between++) {
                    x.take(4 * between + 3, 3, 3, 0);
                    Checks.due(name + " filled to " + between, x.gaps(Checks.EVERY),
                        last - between - 1);
                }
                x.take(4 * first, 0, 0, 1);
                Checks.due(name + " with no gap left", x.gaps(Checks.EVERY), 0);
            }
        }
        RollupStore many = Edge.ofHours(0, 2, 4, 6, 8, 10, 12, 14);
        Checks.due("every second hour", many.gaps(Checks.EVERY), 7);
        many.forget(0);
        Checks.due("the first forgotten", many.gaps(Checks.EVERY), 6);
        many.forget(14);
        Checks.due("the last forgotten", many.gaps(Checks.EVERY), 5);
        many.forget(6);
        Checks.due("one between forgotten", many.gaps(Checks.EVERY), 6);
        Checks.due("400 events, 40 sorts", Edge.fullOfEvents(40, 1).gaps(Checks.EVERY), 0);
    }

    private static void gapsOfThosePassing() {
        Checks.sentence("Promise 14", "in which no event that passes lies (but others may)");
        RollupStore x = Edge.ofHours(3, 12);
        for (int hour = 0; hour <= 15; hour++) {
            x.take(4 * hour, 2, 2, 1);
        }
        int place0 = Checks.filter(1, 15, 0, 0, 15);
        Checks.due("others in every hour", x.gaps(place0), 8);
        Checks.due("the hours of the filter are no gaps", x.gaps(Checks.filter(1, 15, 0, 2, 13)), 8);
        Checks.due("from and to on the events", x.gaps(Checks.filter(1, 15, 0, 3, 12)), 8);
        Checks.due("to before the last", x.gaps(Checks.filter(1, 15, 0, 3, 11)), 0);
        Checks.due("from behind the first", x.gaps(Checks.filter(1, 15, 0, 4, 12)), 0);
        Checks.due("all", x.gaps(Checks.EVERY), 0);
    }

    private static void gapsOfNone() {
        Checks.sentence("Promise 14", "0 when none passes");
        int[] filters = {Checks.NOTHING, Checks.hours(2, 6), Checks.hours(8, 14),
            Checks.hours(15, 0), Checks.filter(4, 15, 0, 0, 15), 0, 262143};
        for (int filter : filters) {
            Checks.due("none there, gaps(" + filter + ")", new RollupStore().gaps(filter), 0);
            Checks.due("none passes, gaps(" + filter + ")", Edge.some().gaps(filter), 0);
        }
        RollupStore x = Edge.ofHours(0, 15);
        x.forget(0);
        x.forget(15);
        Checks.due("all forgotten", x.gaps(Checks.EVERY), 0);
    }

    private static void gapsNoFilter() {
        Checks.sentence("Promise 14", "BAD when filter is no filter.");
        RollupStore x = Edge.some();
        for (int filter : Edge.noFilters()) {
            Checks.due("gaps(" + filter + ")", x.gaps(filter), Edge.BAD);
        }
        Edge.alike("after gaps of no filters", x, Edge.some());
        Checks.due("of a new object, below", new RollupStore().gaps(-1), Edge.BAD);
        Checks.due("of a new object, above", new RollupStore().gaps(262144), Edge.BAD);
    }
}
