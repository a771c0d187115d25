import java.util.ArrayList;
import java.util.Arrays;
import java.util.Comparator;
import java.util.HashMap;
import java.util.List;
import java.util.Map;
import java.util.TreeMap;
import java.util.TreeSet;

/**
 * The document told a second time, with whole copies of every row and the Java library, so that it
 * shares no idea with the program. Every act answers a long; a finding is thrown and counted in act().
 */
final class PlainModel {
    private static final class Finding extends RuntimeException {
        private static final long serialVersionUID = 1L;
        final int code;

        Finding(int code) {
            super(null, null, false, false);
            this.code = code;
        }
    }

    private record Place(int value, int weight) {
    }

    private record Row(int kind, int version, List<Place> places) {
    }

    private final Row[] shelf = new Row[12];
    private final List<List<Place>> versions = new ArrayList<>();
    private final List<Integer> parents = new ArrayList<>();
    private final Map<Integer, Integer> told = new HashMap<>();
    private List<Integer> steps = new ArrayList<>();
    private int made = 0;

    PlainModel() {
        versions.add(List.of());
        parents.add(-6);
        shelf[0] = new Row(0, 0, List.of());
    }

    long act(String name, int[] x) {
        try {
            return answer(name, x);
        } catch (Finding f) {
            told.merge(f.code, 1, Integer::sum);
            return name.equals("weight") || name.equals("sum") ? 0 : f.code;
        }
    }

    private static void ask(boolean wrong, int code) {
        if (wrong) {
            throw new Finding(code);
        }
    }

    private Row place(int p) {
        ask(p < 0 || p > 11, -1);
        ask(shelf[p] == null, -2);
        return shelf[p];
    }

    private static List<Place> span(Row row, long a, long b) {
        ask(b < a, -4);
        ask(a < 0 || b > row.places.size(), -1);
        return row.places.subList((int) a, (int) b);
    }

    private List<Integer> values(int[] x) {
        return span(place(x[0]), x[1], x[2]).stream().map(Place::value).toList();
    }

    private static boolean noPlace(int r) {
        return r < 0 || r > 11;
    }

    private boolean noVersion(int v) {
        return v < 0 || v >= versions.size();
    }

    private long add(int parent, List<Place> places, int more, int r) {
        versions.add(places);
        parents.add(parent);
        made += more;
        shelf[r] = new Row(0, versions.size() - 1, places);
        return versions.size() - 1;
    }

    private long answer(String name, int[] x) {
        switch (name) {
            case "push": case "cut": case "join": case "turn":
                return grow(name, x);
            case "version": case "about": case "common": case "versions":
                return history(name, x);
            case "seal": case "put": case "take": case "row": case "at": case "weight": case "bit": case "ones":
                return onShelf(name, x);
            case "differ": case "first": case "step": case "found":
                return others(name, x);
            default:
                return ofSpan(name, x);
        }
    }

    private long grow(String name, int[] x) {
        Row row = place(x[0]);
        ask(row.kind != 0, -3);
        int length = row.places.size();
        List<Place> now = new ArrayList<>(row.places);
        switch (name) {
            case "push":
                ask(x[1] < 0 || x[1] > 1023 || noPlace(x[3]), -1);
                ask(length == 400 || versions.size() == 500 || made == 20000, -5);
                now.add(new Place(x[1], x[2]));
                return add(row.version, now, 1, x[3]);
            case "cut":
                ask(x[1] < 0, -4);
                ask(x[1] > length || noPlace(x[2]), -1);
                ask(versions.size() == 500, -5);
                return add(row.version, new ArrayList<>(now.subList(0, x[1])), 0, x[2]);
            case "join":
                List<Place> span = span(place(x[1]), x[2], x[3]);
                ask(noPlace(x[4]), -1);
                ask(length + span.size() > 400 || versions.size() == 500 || made + span.size() > 20000, -5);
                now.addAll(span);
                return add(row.version, now, span.size(), x[4]);
            default:
                ask(x[1] < 0 || x[1] >= length || x[2] < 0 || x[2] > 1023, -1);
                ask(versions.size() == 500 || made + length - x[1] > 20000, -5);
                now.set(x[1], new Place(x[2], x[3]));
                return add(row.version, now, length - x[1], x[0]);
        }
    }

    private TreeSet<Integer> ancestors(int v) {
        TreeSet<Integer> all = new TreeSet<>();
        for (int u = v; u >= 0; u = parents.get(u)) {
            all.add(u);
        }
        return all;
    }

    private long history(String name, int[] x) {
        switch (name) {
            case "version":
                ask(noVersion(x[0]) || noPlace(x[1]), -1);
                shelf[x[1]] = new Row(0, x[0], versions.get(x[0]));
                return versions.get(x[0]).size();
            case "common":
                ask(noVersion(x[0]) || noVersion(x[1]), -1);
                TreeSet<Integer> both = ancestors(x[0]);
                both.retainAll(ancestors(x[1]));
                return both.last();
            case "versions":
                return x[0] == 1 ? made : versions.size();
            default:
                ask(noVersion(x[0]) || x[1] < 0 || x[1] > 4, -1);
                return aboutVersion(x[0], x[1]);
        }
    }

    private long aboutVersion(int v, int what) {
        switch (what) {
            case 0:
                return versions.get(v).size();
            case 1:
                ask(v == 0, -6);
                return parents.get(v);
            case 2:
                return parents.stream().filter(u -> u == v).count();
            case 3:
                return v > 0 && parents.indexOf(parents.get(v)) < v ? 1 : 0;
            default:
                return ancestors(v).size();
        }
    }

    private List<Integer> plane(Row row, int plane) {
        int top = row.kind == 2 ? 7 : 9;
        ask(plane < 0 || plane > top, -1);
        List<Integer> order = row.places.stream().map(Place::value).toList();
        for (int i = 0; i < plane; i++) {
            int bit = top - i;
            order = order.stream().sorted(Comparator.comparingInt(v -> v >> bit & 1)).toList();
        }
        return order.stream().map(v -> v >> (top - plane) & 1).toList();
    }

    private long onShelf(String name, int[] x) {
        if (name.equals("take")) {
            ask(noPlace(x[0]), -1);
            shelf[x[0]] = null;
            return 0;
        }
        Row row = place(x[0]);
        int length = row.places.size();
        switch (name) {
            case "seal":
                boolean narrow = x[2] == 1;
                ask(noPlace(x[1]) || narrow && row.places.stream().anyMatch(e -> e.value > 255), -1);
                shelf[x[1]] = new Row(narrow ? 2 : 1, -1, row.places);
                return length;
            case "put":
                ask(noPlace(x[1]), -1);
                shelf[x[1]] = row;
                return row.kind;
            case "row":
                ask(x[1] < 0 || x[1] > 2, -1);
                ask(x[1] == 2 && row.kind != 0, -3);
                return x[1] == 0 ? row.kind : x[1] == 1 ? length : row.version;
            case "at": case "weight":
                ask(x[1] < 0 || x[1] >= length, -1);
                return name.equals("at") ? row.places.get(x[1]).value : row.places.get(x[1]).weight;
            case "bit":
                ask(row.kind == 0, -3);
                List<Integer> bits = plane(row, x[1]);
                ask(x[2] < 0 || x[2] >= length, -1);
                return bits.get(x[2]);
            default:
                ask(row.kind == 0, -3);
                List<Integer> counted = plane(row, x[1]);
                ask(x[2] < 0 || x[2] > length, -1);
                return counted.subList(0, x[2]).stream().mapToInt(i -> i).sum();
        }
    }

    private static TreeMap<Integer, Integer> counts(List<Integer> values) {
        TreeMap<Integer, Integer> counts = new TreeMap<>();
        for (int value : values) {
            counts.merge(value, 1, Integer::sum);
        }
        return counts;
    }

    private long way(int top, List<Integer> values, long k) {
        ask(k < 0 || k >= values.size(), -6);
        int value = values.stream().sorted().toList().get((int) k);
        steps = new ArrayList<>();
        for (int bit = top; bit >= 0; bit--) {
            int b = bit;
            steps.add((int) values.stream()
                .filter(v -> v >> (b + 1) == value >> (b + 1) && (v >> b & 1) == 0).count());
        }
        return value;
    }

    private long ofSpan(String name, int[] x) {
        List<Integer> values = values(x);
        int top = shelf[x[0]].kind == 2 ? 7 : 9;
        TreeMap<Integer, Integer> counts = counts(values);
        switch (name) {
            case "kth":
                return way(top, values, x[3]);
            case "median":
                return way(top, values, values.isEmpty() ? -1 : (values.size() - 1) / 2);
            case "rank":
                return values.stream().filter(v -> v < x[3]).count();
            case "between":
                return values.stream().filter(v -> v >= x[3] && v <= x[4]).count();
            case "next":
                ask(counts.ceilingKey(x[3]) == null, -6);
                return counts.ceilingKey(x[3]);
            case "prior":
                ask(counts.floorKey(x[3]) == null, -6);
                return counts.floorKey(x[3]);
            case "half":
                return counts.keySet().stream().filter(v -> counts.get(v) * 2 > values.size())
                    .findFirst().orElseThrow(() -> new Finding(-6));
            case "often":
                ask(x[3] < 0 || x[3] >= counts.size(), -6);
                return counts.keySet().stream()
                    .sorted(Comparator.<Integer>comparingInt(v -> -counts.get(v)).thenComparingInt(v -> v))
                    .toList().get(x[3]);
            case "distinct":
                return counts.size();
            case "sum":
                return span(place(x[0]), x[1], x[2]).stream().filter(e -> e.value < x[3])
                    .mapToLong(Place::weight).sum();
            default:
                throw new IllegalStateException(name);
        }
    }

    private long others(String name, int[] x) {
        switch (name) {
            case "differ":
                Row left = place(x[0]);
                Row right = place(x[3]);
                TreeMap<Integer, Integer> one = counts(span(left, x[1], x[2]).stream().map(Place::value).toList());
                TreeMap<Integer, Integer> two = counts(span(right, x[4], (long) x[4] + x[2] - x[1])
                    .stream().map(Place::value).toList());
                TreeSet<Integer> all = new TreeSet<>(one.keySet());
                all.addAll(two.keySet());
                return all.stream().filter(v -> !one.getOrDefault(v, 0).equals(two.getOrDefault(v, 0)))
                    .findFirst().orElseThrow(() -> new Finding(-6));
            case "first":
                Object[] p = place(x[0]).places.toArray();
                Object[] q = place(x[1]).places.toArray();
                int apart = Arrays.mismatch(p, q);
                ask(apart < 0, -6);
                return apart;
            case "step":
                ask(x[0] < 0 || x[0] >= steps.size(), -6);
                return steps.get(x[0]);
            default:
                ask(x[0] < -6 || x[0] > -1, -1);
                return told.getOrDefault(x[0], 0);
        }
    }

    int length(int p) {
        return p < 0 || p > 11 || shelf[p] == null ? 0 : shelf[p].places.size();
    }

    int versionCount() {
        return versions.size();
    }
}
