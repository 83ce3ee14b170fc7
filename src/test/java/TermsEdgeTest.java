/** The sentences of "What it is" and "Terms" that name a bound, each with a test of its own. */
final class TermsEdgeTest {
    public static void main(String[] args) {
        callsOfAnObject();
        rangesOfAnEvent();
        hourOfATime();
        oneSort();
        sortsAtATime();
        eventsAtATime();
        everyNumberOfTheForm();
        partsOfAFilter();
        fromAndToIncluded();
        fromBehindTo();
        modes();
        noFilter();
        Checks.end();
    }

    private static void callsOfAnObject() {
        Checks.sentence("What it is", "An object is used for at most 512 calls");
        RollupStore sealed = new RollupStore();
        for (int call = 1; call <= 511; call++) {
            sealed.seal();
        }
        Checks.due("512th call, a take after seals", sealed.take(0, 0, 0, 1), 1);
        RollupStore taken = new RollupStore();
        for (int call = 1; call <= 511; call++) {
            Checks.due(call + ". call, a take", taken.take(0, 0, 0, 1), call <= 400 ? call : -2);
        }
        Checks.due("512th call, after takes", taken.events(), 400);
        RollupStore asked = Edge.one();
        for (int call = 2; call <= 512; call++) {
            Checks.due(call + ". call, a question", asked.sum(Checks.EVERY), 7);
        }
        RollupStore inTurn = new RollupStore();
        for (int call = 1; call <= 511; call += 2) {
            Checks.due(call + ". call, a take in turn", inTurn.take(call % 64, 2, 3, 1), 1);
            Checks.due(call + 1 + ". call, a forget", inTurn.forget(call % 64 / 4), 1);
        }
        manySortsInOneLife();
        manyEventsInOneLife();
    }

    private static void manySortsInOneLife() {
        RollupStore x = new RollupStore();
        for (int hour = 0; hour < 16; hour++) {
            for (int sort = 0; sort < 16; sort++) {
                Checks.due("sort " + (16 * hour + sort) + " of a life",
                    x.take(4 * hour + 1, sort / 4, sort % 4, sort), 1);
            }
            Checks.due("forget(" + hour + ")", x.forget(hour), 16);
        }
        Checks.due("sorts() at the end", x.sorts(), 0);
    }

    private static void manyEventsInOneLife() {
        RollupStore x = new RollupStore();
        for (int event = 1; event <= 255; event++) {
            Checks.due("event " + event + " of a life", x.take(0, 0, 0, 100), event);
        }
        Checks.due("256th call", x.forget(0), 255);
        for (int event = 1; event <= 255; event++) {
            Checks.due("event " + (255 + event) + " of a life", x.take(4, 0, 0, 100), event);
        }
        Checks.due("512th call", x.sum(Checks.EVERY), 25500);
    }

    private static void rangesOfAnEvent() {
        Checks.sentence("Terms", "An EVENT has a time 0 .. 63, a place 0 .. 3, a kind 0 .. 3 and an"
            + " amount from -100 to 100");
        for (int time = 0; time <= 63; time++) {
            Checks.due("time " + time, new RollupStore().take(time, 0, 0, 0), 1);
        }
        for (int value = 0; value <= 3; value++) {
            Checks.due("place " + value, new RollupStore().take(0, value, 0, 0), 1);
            Checks.due("kind " + value, new RollupStore().take(0, 0, value, 0), 1);
        }
        for (int amount = -100; amount <= 100; amount++) {
            RollupStore x = new RollupStore();
            Checks.due("amount " + amount, x.take(0, 0, 0, amount), 1);
            Checks.due("sum of amount " + amount, x.sum(Checks.EVERY), amount);
        }
        Checks.due("all first", new RollupStore().take(0, 0, 0, -100), 1);
        Checks.due("all last", new RollupStore().take(63, 3, 3, 100), 1);
    }

    private static void hourOfATime() {
        Checks.sentence("Terms", "Its HOUR is its time divided by 4, rounded down (0 .. 15)");
        int time = 0;
        for (int hour = 0; hour <= 15; hour++) {
            for (int part = 0; part < 4; part++) {
                RollupStore x = new RollupStore();
                x.take(time, 0, 0, 1);
                for (int other = 0; other <= 15; other++) {
                    Checks.due("time " + time + " in hour " + other,
                        x.count(Checks.hours(other, other)), other == hour ? 1 : 0);
                }
                Checks.due("hour of time " + time, x.top(Checks.EVERY, 0, 0), hour);
                Checks.due("forgotten with time " + time, x.forget(hour), 1);
                time++;
            }
        }
    }

    private static void oneSort() {
        Checks.sentence("Terms", "Events with the same hour, place and kind are of one SORT");
        RollupStore x = new RollupStore();
        x.take(4, 1, 1, -100);
        Checks.due("last time of the hour, other amount", x.take(7, 1, 1, 100), 2);
        Checks.due("time before the hour", x.take(3, 1, 1, 0), 1);
        Checks.due("time behind the hour", x.take(8, 1, 1, 0), 1);
        Checks.due("place below", x.take(4, 0, 1, 0), 1);
        Checks.due("place above", x.take(4, 2, 1, 0), 1);
        Checks.due("kind below", x.take(4, 1, 0, 0), 1);
        Checks.due("kind above", x.take(4, 1, 2, 0), 1);
        Checks.due("sorts()", x.sorts(), 7);
        Checks.due("third of the first", x.take(5, 1, 1, 0), 3);
        RollupStore turned = new RollupStore();
        turned.take(4, 2, 3, 0);
        Checks.due("place and kind turned round", turned.take(4, 3, 2, 0), 1);
    }

    private static void sortsAtATime() {
        Checks.sentence("Terms", "At most 40 sorts can be there at a time");
        RollupStore x = Edge.ofSorts(39, 1);
        Checks.due("sorts() with 39", x.sorts(), 39);
        Checks.due("40th sort", Edge.takeOfSort(x, 39, 1), 1);
        Checks.due("sorts() with 40", x.sorts(), 40);
        for (int i = 40; i < 256; i++) {
            Checks.due("41st sort, number " + i, Edge.takeOfSort(x, i, 1), Edge.FULL);
        }
        Checks.due("sorts() after the 41st", x.sorts(), 40);
        RollupStore y = Edge.ofSorts(40, 1);
        int gone = y.forget(0);
        Checks.holds("forget(0) makes room", gone > 0);
        Checks.due("sorts() after forget(0)", y.sorts(), 40 - gone);
        for (int i = 40; i < 40 + gone; i++) {
            Checks.due("room again, sort number " + i, Edge.takeOfSort(y, i, 1), 1);
        }
        Checks.due("41st sort again", Edge.takeOfSort(y, 40 + gone, 1), Edge.FULL);
    }

    private static void eventsAtATime() {
        Checks.sentence("Terms", "At most 40 sorts can be there at a time, and at most 400 events");
        RollupStore x = Edge.fullOfEvents(40, 1);
        Checks.due("events() with 400", x.events(), 400);
        Checks.due("401st", Edge.takeOfSort(x, 0, 1), Edge.FULL);
        Checks.due("events() after the 401st", x.events(), 400);
        int gone = x.forget(15);
        Checks.holds("forget(15) makes room", gone > 0);
        Checks.due("events() after forget(15)", x.events(), 400 - gone);
        for (int i = 0; i < gone; i++) {
            Checks.due("room again, " + i, Edge.takeOfSort(x, 0, 1), 11 + i);
        }
        Checks.due("401st again", Edge.takeOfSort(x, 0, 1), Edge.FULL);
    }

    /** All 262144 numbers of the form, each with what the five parts say. */
    private static void everyNumberOfTheForm() {
        Checks.sentence("Terms", "A FILTER is written as a number: places + 16 * kinds + 256 * mode"
            + " + 1024 * from + 16384 * to");
        RollupStore x = null;
        int calls = 0;
        int[][] taken = {{0, 0, 0}, {15, 3, 3}, {0, 3, 1}, {7, 1, 2}, {8, 2, 0}, {15, 0, 3}};
        for (int number = 0; number < 262144; number++) {
            if (x == null || calls == 512) {
                x = of(taken);
                calls = taken.length;
            }
            calls++;
            int places = number % 16;
            int kinds = number / 16 % 16;
            int mode = number / 256 % 4;
            int from = number / 1024 % 16;
            int to = number / 16384;
            int want = 0;
            for (int[] event : taken) {
                boolean inHours = event[0] >= from && event[0] <= to;
                want += inHours && passes(mode, places, kinds, event[1], event[2]) ? 1 : 0;
            }
            Checks.due("count(" + number + ")", x.count(number), want);
        }
    }

    private static RollupStore of(int[][] taken) {
        RollupStore x = new RollupStore();
        for (int[] event : taken) {
            x.take(4 * event[0], event[1], event[2], 1);
        }
        return x;
    }

    private static boolean passes(int mode, int places, int kinds, int place, int kind) {
        boolean inPlaces = (places & 1 << place) != 0;
        boolean inKinds = (kinds & 1 << kind) != 0;
        return switch (mode) {
            case 0 -> inPlaces && inKinds;
            case 1 -> inPlaces || inKinds;
            case 2 -> !(inPlaces && inKinds);
            default -> !inPlaces && !inKinds;
        };
    }

    /** The last value of each part, and the number behind it, which is the next part's 1. */
    private static void partsOfAFilter() {
        Checks.sentence("Terms", "places and kinds are sets (0 .. 15, bit v for value v), mode is"
            + " 0 .. 3, and from and to are hours (0 .. 15)");
        RollupStore x = new RollupStore();
        // Amounts tell which events passed: hour 0 has 1, 2, 4, 8, hour 1 has 16, hour 15 has 32.
        x.take(0, 0, 0, 1);
        x.take(0, 3, 0, 2);
        x.take(0, 0, 3, 4);
        x.take(0, 3, 3, 8);
        x.take(4, 0, 0, 16);
        x.take(60, 3, 3, 32);
        Checks.due("places 15, no kinds", x.sum(15), 0);
        Checks.due("no places, kinds 1", x.sum(16), 0);
        Checks.due("places 15, kinds 1", x.sum(15 + 16), 3);
        Checks.due("places 0, kinds 2", x.sum(15 + 16 + 1), 0);
        Checks.due("places 1, kinds 15", x.sum(1 + 16 * 15), 5);
        Checks.due("places 8, kinds 15", x.sum(8 + 16 * 15), 10);
        Checks.due("places 15, kinds 8", x.sum(15 + 16 * 8), 12);
        Checks.due("kinds 15, mode 0", x.sum(15 + 16 * 15), 15);
        Checks.due("kinds 0, mode 1", x.sum(256), 0);
        Checks.due("mode 3, last sets", x.sum(1023), 0);
        Checks.due("mode 3, no sets", x.sum(256 * 3), 15);
        Checks.due("mode 0, from 1, to 0", x.sum(1024), 0);
        Checks.due("to 1, from 0", x.sum(255 + 16384), 31);
        Checks.due("to 1, from 1", x.sum(255 + 1024 + 16384), 16);
        Checks.due("to 0, from 15", x.sum(255 + 1024 * 15), 0);
        Checks.due("to 15, from 0", x.sum(255 + 16384 * 15), 63);
        Checks.due("to 15, from 15", x.sum(255 + 1024 * 15 + 16384 * 15), 32);
        Checks.due("to 14", x.sum(255 + 16384 * 14), 31);
        Checks.due("every part at its last value", x.count(262143), 0);
        Checks.due("every part at its first value", x.count(0), 0);
    }

    private static void fromAndToIncluded() {
        Checks.sentence("Terms", "An event PASSES when its hour is from .. to (both included)");
        for (int hour = 0; hour <= 15; hour++) {
            RollupStore x = Edge.ofHours(hour);
            String name = "hour " + hour;
            Checks.due(name + " in itself", x.count(Checks.hours(hour, hour)), 1);
            Checks.due(name + " as from", x.count(Checks.hours(hour, 15)), 1);
            Checks.due(name + " as to", x.count(Checks.hours(0, hour)), 1);
            if (hour < 15) {
                Checks.due(name + " before from", x.count(Checks.hours(hour + 1, 15)), 0);
            }
            if (hour > 0) {
                Checks.due(name + " behind to", x.count(Checks.hours(0, hour - 1)), 0);
            }
        }
    }

    /** No wrap-around over midnight: no hour is from .. to when from is the later one. */
    private static void fromBehindTo() {
        Checks.sentence("Terms", "its hour is from .. to (both included) (from behind to)");
        RollupStore x = Edge.ofHours(0, 1, 2, 3, 4, 5, 6, 7, 8, 9, 10, 11, 12, 13, 14, 15);
        for (int from = 1; from <= 15; from++) {
            for (int to = 0; to < from; to++) {
                Checks.due("count from " + from + " to " + to, x.count(Checks.hours(from, to)), 0);
            }
        }
        int turned = Checks.hours(15, 0);
        Checks.due("sum", x.sum(turned), 0);
        Checks.due("least", x.least(turned), Edge.NONE);
        Checks.due("sortsPassing", x.sortsPassing(turned), 0);
        Checks.due("top", x.top(turned, 0, 0), Edge.BAD);
        Checks.due("gaps", x.gaps(turned), 0);
    }

    private static void modes() {
        mode(0, "mode 0: it is in places and in kinds", 8, 0, 0, 0);
        mode(1, "mode 1: it is in places or in kinds", 8, 4, 2, 0);
        mode(2, "mode 2: it is not (in places and in kinds)", 0, 4, 2, 1);
        mode(3, "mode 3: it is neither in places nor in kinds", 0, 0, 0, 1);
    }

    /** What is answered for an event in both sets, in places alone, in kinds alone, in neither. */
    private static void mode(int mode, String words, int both, int place, int kind, int neither) {
        Checks.sentence("Terms", words);
        RollupStore x = new RollupStore();
        x.take(0, 0, 3, 8);
        x.take(0, 0, 0, 4);
        x.take(0, 3, 3, 2);
        x.take(0, 3, 0, 1);
        Checks.due("places {0}, kinds {3}", x.sum(Checks.filter(1, 8, mode, 0, 15)),
            both + place + kind + neither);
        Checks.due("both sets full", x.count(Checks.filter(15, 15, mode, 0, 15)), both > 0 ? 4 : 0);
        Checks.due("all places, no kinds", x.count(Checks.filter(15, 0, mode, 0, 15)),
            place > 0 ? 4 : 0);
        Checks.due("no places, all kinds", x.count(Checks.filter(0, 15, mode, 0, 15)),
            kind > 0 ? 4 : 0);
        Checks.due("both sets empty", x.count(Checks.filter(0, 0, mode, 0, 15)),
            neither > 0 ? 4 : 0);
        Checks.due("sets of others", x.count(Checks.filter(6, 6, mode, 0, 15)),
            neither > 0 ? 4 : 0);
    }

    /** The numbers next to the form, and others all over the reach of an int. */
    private static void noFilter() {
        Checks.sentence("Terms",
            "A number that is not of this form (with every part in its range) is no filter");
        RollupStore x = Edge.some();
        for (int number : Edge.noFilters()) {
            Checks.due("count(" + number + ")", x.count(number), Edge.BAD);
        }
        Checks.due("to 16", Edge.some().count(Checks.filter(15, 15, 0, 0, 16)), Edge.BAD);
        Checks.due("to -1", Edge.some().count(Checks.filter(15, 15, 0, 0, -1)), Edge.BAD);
        for (long number = Integer.MIN_VALUE; number <= Integer.MAX_VALUE; number += 99991) {
            if (number < 0 || number > 262143) {
                Checks.due("count(" + number + ")", Edge.one().count((int) number), Edge.BAD);
            }
        }
    }
}
