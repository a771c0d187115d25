import java.util.Arrays;
import java.util.Random;

/** Long runs of calls, always the same ones, answered by the program and by the plain model alike. */
public final class ModelTest {
    private static final String[] MAKING = {"push", "cut", "join", "turn", "version", "seal", "put", "take"};
    private static final String[] ASKING = {"about", "common", "versions", "row", "at", "weight", "bit", "ones",
        "kth", "rank", "between", "next", "prior", "median", "half", "often", "distinct", "sum", "differ",
        "first", "step", "found"};
    private static final int[] EDGES = {Integer.MIN_VALUE, -7, -6, -1, 0, 1, 11, 12, 255, 256, 399, 400, 401,
        500, 1023, 1024, 20000, Integer.MAX_VALUE};

    private final Random random;
    private final int topValue;
    private final int topPlace;
    private final int makingShare;
    private final int wrongShare;
    private PlainModel model;

    private ModelTest(int seed) {
        random = new Random(seed);
        topValue = new int[] {1, 3, 20, 255, 256, 1023}[seed % 6];
        topPlace = new int[] {2, 4, 11}[seed % 3];
        makingShare = new int[] {30, 60, 95, 45}[seed % 4];
        wrongShare = new int[] {2, 6, 1, 15, 0}[seed % 5];
    }

    public static void main(String[] args) {
        for (int seed = 0; seed < 900 && Check.wrongs() < 20; seed++) {
            new ModelTest(seed).run(seed);
        }
        Check.end();
    }

    private void run(int seed) {
        RankShelf shelf = new RankShelf();
        model = new PlainModel();
        // The six counts at the end are calls, too, and an object is good for 512.
        for (int call = 0; call < 506 && Check.wrongs() < 20; call++) {
            String[] names = random.nextInt(100) < makingShare ? MAKING : ASKING;
            String name = names[random.nextInt(names.length)];
            if (names == MAKING && random.nextInt(3) > 0) {
                name = MAKING[random.nextInt(4)];
            }
            int[] x = arguments(name);
            long want = model.act(name, x);
            Check.due("run " + seed + " call " + call + " " + name + Arrays.toString(x), new Call(name, x).ask(shelf), want);
        }
        for (int finding = -6; finding <= -1; finding++) {
            int[] x = {finding};
            Check.due("run " + seed + " found " + finding, shelf.found(finding), model.act("found", x));
        }
    }

    private int below(int bound) {
        return bound <= 0 ? 0 : random.nextInt(bound);
    }

    private int place() {
        return below(topPlace + 1);
    }

    private int value() {
        return random.nextInt(4) == 0 ? topValue : below(topValue + 1);
    }

    private int weight() {
        return random.nextInt(3) == 0 ? random.nextInt() : below(5) - 2;
    }

    /** An asked place, mostly one that holds something. */
    private int rowPlace() {
        int p = place();
        for (int i = 0; i < 4 && model.length(p) == 0; i++) {
            p = place();
        }
        return p;
    }

    private int[] arguments(String name) {
        int p = rowPlace();
        int q = rowPlace();
        int length = model.length(p);
        int a = random.nextInt(3) == 0 ? 0 : below(length + 1);
        int b = random.nextInt(3) == 0 ? length : a + below(length - a + 1);
        int[] x = ordinary(name, p, q, a, b);
        for (int i = 0; i < x.length; i++) {
            boolean flag = name.equals("versions") || name.equals("seal") && i == 2;
            if (!flag && random.nextInt(100) < wrongShare) {
                x[i] = random.nextBoolean() ? EDGES[random.nextInt(EDGES.length)] : x[i] + 1 - 2 * random.nextInt(2);
            }
        }
        return x;
    }

    private int[] ordinary(String name, int p, int q, int a, int b) {
        int length = model.length(p);
        switch (name) {
            case "push": return new int[] {p, value(), weight(), place()};
            case "cut": return new int[] {p, length - below(Math.min(length, 9) + 1), place()};
            case "join": return joined(p, q);
            case "turn": return new int[] {p, below(length), value(), weight()};
            case "version": return new int[] {below(model.versionCount()), place()};
            case "about": return new int[] {below(model.versionCount()), below(5)};
            case "common": return new int[] {below(model.versionCount()), below(model.versionCount())};
            case "versions": return new int[] {below(2)};
            case "seal": return new int[] {p, place(), below(2)};
            case "put": return new int[] {p, place()};
            case "take": return new int[] {place()};
            case "row": return new int[] {p, below(3)};
            case "at": case "weight": return new int[] {p, below(length)};
            case "bit": return new int[] {p, below(10), below(length)};
            case "ones": return new int[] {p, below(10), below(length + 1)};
            case "kth": return new int[] {p, a, b, below(b - a)};
            case "often": return new int[] {p, a, b, below(5)};
            case "rank": case "next": case "prior": case "sum": return new int[] {p, a, b, value()};
            case "between": return new int[] {p, a, b, below(topValue / 2 + 1), value()};
            case "differ": return new int[] {p, a, b, q, below(model.length(q) - (b - a) + 1)};
            case "first": return new int[] {p, q};
            case "step": return new int[] {below(10)};
            case "found": return new int[] {-1 - below(6)};
            default: return new int[] {p, a, b};
        }
    }

    private int[] joined(int p, int q) {
        int length = model.length(q);
        int a = below(length + 1);
        int b = a + below(length - a + 1);
        return new int[] {p, q, random.nextBoolean() ? 0 : a, b, place()};
    }
}
