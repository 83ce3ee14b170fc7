import java.util.ArrayList;
import java.util.Comparator;
import java.util.List;
import java.util.TreeMap;
import java.util.TreeSet;
import java.util.stream.Collectors;
import java.util.stream.IntStream;

/** The document's words over a plain list of events, to hold the class against. */
final class Model {
    private static final class Event {
        final int[] parts;
        final int amount;

        Event(int hour, int place, int kind, int amount) {
            this.parts = new int[] {hour, place, kind};
            this.amount = amount;
        }

        String sort() {
            return parts[0] + " " + parts[1] + " " + parts[2];
        }
    }

    private final List<Event> events = new ArrayList<>();

    private static boolean outside(int value, int first, int last) {
        return value < first || value > last;
    }

    int take(int time, int place, int kind, int amount) {
        if (outside(time, 0, 63) || outside(place, 0, 3) || outside(kind, 0, 3)
            || outside(amount, -100, 100)) {
            return -1;
        }
        Event event = new Event(Math.floorDiv(time, 4), place, kind, amount);
        long like = events.stream().filter(e -> e.sort().equals(event.sort())).count();
        if (events.size() == 400 || like == 0 && sorts() == 40) {
            return -2;
        }
        events.add(event);
        return (int) like + 1;
    }

    int forget(int hour) {
        if (outside(hour, 0, 15)) {
            return -1;
        }
        int before = events.size();
        events.removeIf(e -> e.parts[0] == hour);
        return before - events.size();
    }

    int events() {
        return events.size();
    }

    int sorts() {
        return sortsOf(events);
    }

    private static int sortsOf(List<Event> some) {
        return (int) some.stream().map(Event::sort).distinct().count();
    }

    private static int sumOf(List<Event> some) {
        return some.stream().mapToInt(e -> e.amount).sum();
    }

    /** The events that pass, or null for no filter. */
    private List<Event> passing(int filter) {
        if (outside(filter, 0, 15 + 16 * 15 + 256 * 3 + 1024 * 15 + 16384 * 15)) {
            return null;
        }
        int to = filter / 16384;
        int rest = filter - 16384 * to;
        int from = rest / 1024;
        rest -= 1024 * from;
        int mode = rest / 256;
        rest -= 256 * mode;
        int kinds = rest / 16;
        int places = rest - 16 * kinds;
        return events.stream().filter(e -> {
            boolean inPlaces = (places & 1 << e.parts[1]) != 0;
            boolean inKinds = (kinds & 1 << e.parts[2]) != 0;
            boolean[] byMode = {inPlaces && inKinds, inPlaces || inKinds,
                !(inPlaces && inKinds), !inPlaces && !inKinds};
            return e.parts[0] >= from && e.parts[0] <= to && byMode[mode];
        }).collect(Collectors.toList());
    }

    int count(int filter) {
        List<Event> some = passing(filter);
        return some == null ? -1 : some.size();
    }

    int sum(int filter) {
        List<Event> some = passing(filter);
        return some == null ? -1000000 : sumOf(some);
    }

    int least(int filter) {
        List<Event> some = passing(filter);
        return some == null ? -1000000
            : some.stream().mapToInt(e -> e.amount).min().orElse(-1000000);
    }

    int greatest(int filter) {
        List<Event> some = passing(filter);
        return some == null ? -1000000
            : some.stream().mapToInt(e -> e.amount).max().orElse(-1000000);
    }

    int sortsPassing(int filter) {
        List<Event> some = passing(filter);
        return some == null ? -1 : sortsOf(some);
    }

    int sumFor(int filter, int by, int value) {
        List<Event> some = passing(filter);
        if (some == null || outside(by, 0, 2)) {
            return -1000000;
        }
        some.removeIf(e -> e.parts[by] != value);
        return some.isEmpty() ? -1000000 : sumOf(some);
    }

    int top(int filter, int by, int n) {
        List<Event> some = passing(filter);
        if (some == null || outside(by, 0, 2)) {
            return -1;
        }
        TreeMap<Integer, Integer> sums = new TreeMap<>();
        some.forEach(e -> sums.merge(e.parts[by], e.amount, Integer::sum));
        List<Integer> order = new ArrayList<>(sums.keySet());
        order.sort(Comparator.comparing((Integer v) -> -sums.get(v)).thenComparing(v -> v));
        return outside(n, 0, order.size() - 1) ? -1 : order.get(n);
    }

    int gaps(int filter) {
        List<Event> some = passing(filter);
        if (some == null) {
            return -1;
        }
        TreeSet<Integer> hours = new TreeSet<>();
        some.forEach(e -> hours.add(e.parts[0]));
        return hours.isEmpty() ? 0 : (int) IntStream.rangeClosed(hours.first(), hours.last())
            .filter(hour -> !hours.contains(hour)).count();
    }
}
