import java.util.Arrays;

/**
 * A shelf of rows that are kept in all their versions. Every row that can come to the shelf has the
 * places of some version, a SEALED or SHORT one too, so a place of the shelf holds a version and a
 * kind, and no row is ever copied.
 */
public final class RankShelf {
    private static final int FINE = 0;
    private static final int BEYOND = -1;
    private static final int NOTHING = -2;
    private static final int KIND = -3;
    private static final int SIZE = -4;
    private static final int FULL = -5;
    private static final int NONE = -6;

    private static final int GROWN = 0;
    private static final int SEALED = 1;
    private static final int SHORT = 2;

    private static final int SHELF_PLACES = 12;
    private static final int MOST_LENGTH = 400;
    private static final int MOST_VERSIONS = 500;
    private static final int MOST_MADE = 20000;
    private static final int TOP_VALUE = 1023;
    private static final int TOP_SHORT_VALUE = 255;
    private static final int TOP_BIT = 9;
    private static final int TOP_SHORT_BIT = 7;

    private final Version[] history = new Version[MOST_VERSIONS];
    private int versionCount;
    private int placesMade;

    private final Version[] held = new Version[SHELF_PLACES];
    private final int[] kinds = new int[SHELF_PLACES];

    // Every call lays its rows out on these anew, so that none of them makes arrays of its own.
    private final Sheet sheet = new Sheet();
    private final Sheet otherSheet = new Sheet();
    private final Tally tally = new Tally();

    private final int[] steps = new int[TOP_BIT + 1];
    private int stepCount;
    private final int[] tellings = new int[1 - NONE];

    public RankShelf() {
        Version empty = new Version(0, null, 0, 0);
        history[0] = empty;
        versionCount = 1;
        held[0] = empty;
        kinds[0] = GROWN;
    }

    // ---- versions

    public int push(int p, int value, int weight, int r) {
        int finding = findingOfGrown(p);
        if (finding != FINE) {
            return told(finding);
        }
        if (!isValue(value) || !isShelfPlace(r)) {
            return told(BEYOND);
        }
        Version parent = held[p];
        if (parent.length >= MOST_LENGTH || !hasRoomFor(1)) {
            return told(FULL);
        }
        Version grown = grow(parent, parent.length, 1);
        grown.writeOwn(0, value, weight);
        return showGrown(grown, r);
    }

    public int cut(int p, int n, int r) {
        int finding = findingOfGrown(p);
        if (finding != FINE) {
            return told(finding);
        }
        if (n < 0) {
            return told(SIZE);
        }
        Version parent = held[p];
        if (n > parent.length || !isShelfPlace(r)) {
            return told(BEYOND);
        }
        if (!hasRoomFor(0)) {
            return told(FULL);
        }
        return showGrown(grow(parent, n, 0), r);
    }

    public int join(int p, int q, int a, int b, int r) {
        int finding = findingOfGrown(p);
        if (finding == FINE) {
            finding = findingOfSpan(q, a, b);
        }
        if (finding != FINE) {
            return told(finding);
        }
        if (!isShelfPlace(r)) {
            return told(BEYOND);
        }
        Version parent = held[p];
        int more = b - a;
        if (more > MOST_LENGTH - parent.length || !hasRoomFor(more)) {
            return told(FULL);
        }
        sheet.layOut(held[q]);
        Version grown = grow(parent, parent.length, more);
        for (int i = 0; i < more; i++) {
            grown.writeOwn(i, sheet.values[a + i], sheet.weights[a + i]);
        }
        return showGrown(grown, r);
    }

    public int turn(int p, int i, int value, int weight) {
        int finding = findingOfGrown(p);
        if (finding != FINE) {
            return told(finding);
        }
        Version parent = held[p];
        if (i < 0 || i >= parent.length || !isValue(value)) {
            return told(BEYOND);
        }
        int more = parent.length - i;
        if (!hasRoomFor(more)) {
            return told(FULL);
        }
        sheet.layOut(parent);
        Version grown = grow(parent, i, more);
        grown.writeOwn(0, value, weight);
        for (int j = 1; j < more; j++) {
            grown.writeOwn(j, sheet.values[i + j], sheet.weights[i + j]);
        }
        return showGrown(grown, p);
    }

    public int version(int v, int r) {
        if (!isVersion(v) || !isShelfPlace(r)) {
            return told(BEYOND);
        }
        Version wanted = history[v];
        showGrown(wanted, r);
        return wanted.length;
    }

    public int about(int v, int what) {
        if (!isVersion(v)) {
            return told(BEYOND);
        }
        Version asked = history[v];
        switch (what) {
            case 0:
                return asked.length;
            case 1:
                return asked.parent == null ? told(NONE) : asked.parent.number;
            case 2:
                return asked.children;
            case 3:
                return asked.fork ? 1 : 0;
            case 4:
                return asked.ancestors;
            default:
                return told(BEYOND);
        }
    }

    public int common(int v, int u) {
        if (!isVersion(v) || !isVersion(u)) {
            return told(BEYOND);
        }
        Version x = history[v];
        Version y = history[u];
        // A parent is older than what is made from it: the later of two is no ancestor of the other.
        while (x != y && x != null && y != null) {
            if (x.number > y.number) {
                x = x.parent;
            } else {
                y = y.parent;
            }
        }
        return x == null ? 0 : x.number;
    }

    public int versions(boolean made) {
        return made ? placesMade : versionCount;
    }

    // ---- the shelf

    public int seal(int p, int r, boolean narrow) {
        int finding = findingOfPlace(p);
        if (finding != FINE) {
            return told(finding);
        }
        if (!isShelfPlace(r)) {
            return told(BEYOND);
        }
        Version source = held[p];
        if (narrow) {
            sheet.layOut(source);
            if (sheet.leastFrom(0, source.length, TOP_SHORT_VALUE + 1) != NONE) {
                return told(BEYOND);
            }
        }
        held[r] = source;
        kinds[r] = narrow ? SHORT : SEALED;
        return source.length;
    }

    public int put(int p, int r) {
        int finding = findingOfPlace(p);
        if (finding != FINE) {
            return told(finding);
        }
        if (!isShelfPlace(r)) {
            return told(BEYOND);
        }
        held[r] = held[p];
        kinds[r] = kinds[p];
        return kinds[r];
    }

    public int take(int r) {
        if (!isShelfPlace(r)) {
            return told(BEYOND);
        }
        held[r] = null;
        return 0;
    }

    public int row(int p, int what) {
        int finding = findingOfPlace(p);
        if (finding != FINE) {
            return told(finding);
        }
        switch (what) {
            case 0:
                return kinds[p];
            case 1:
                return held[p].length;
            case 2:
                return kinds[p] == GROWN ? held[p].number : told(KIND);
            default:
                return told(BEYOND);
        }
    }

    public int at(int p, int i) {
        int finding = findingOfIndex(p, i);
        if (finding != FINE) {
            return told(finding);
        }
        sheet.layOut(held[p]);
        return sheet.values[i];
    }

    public long weight(int p, int i) {
        int finding = findingOfIndex(p, i);
        if (finding != FINE) {
            told(finding);
            return 0L;
        }
        sheet.layOut(held[p]);
        return sheet.weights[i];
    }

    public int bit(int p, int plane, int i) {
        int finding = findingOfPlane(p, plane);
        if (finding == FINE && (i < 0 || i >= held[p].length)) {
            finding = BEYOND;
        }
        if (finding != FINE) {
            return told(finding);
        }
        int shown = layOutPlane(p, plane);
        return (sheet.values[i] >>> shown) & 1;
    }

    public int ones(int p, int plane, int i) {
        int finding = findingOfPlane(p, plane);
        if (finding == FINE && (i < 0 || i > held[p].length)) {
            finding = BEYOND;
        }
        if (finding != FINE) {
            return told(finding);
        }
        int shown = layOutPlane(p, plane);
        return sheet.countOnes(shown, i);
    }

    // ---- what is asked of spans

    public int kth(int p, int a, int b, int k) {
        int finding = layOutSpan(p, a, b);
        if (finding == FINE && (k < 0 || k >= b - a)) {
            finding = NONE;
        }
        return finding != FINE ? told(finding) : goDown(a, b, k, topBitOf(p));
    }

    public int rank(int p, int a, int b, int value) {
        int finding = layOutSpan(p, a, b);
        return finding != FINE ? told(finding) : sheet.countBelow(a, b, value);
    }

    public int between(int p, int a, int b, int low, int high) {
        int finding = layOutSpan(p, a, b);
        return finding != FINE ? told(finding) : sheet.countWithin(a, b, low, high);
    }

    public int next(int p, int a, int b, int value) {
        int finding = layOutSpan(p, a, b);
        return finding != FINE ? told(finding) : foundOrNone(sheet.leastFrom(a, b, value));
    }

    public int prior(int p, int a, int b, int value) {
        int finding = layOutSpan(p, a, b);
        return finding != FINE ? told(finding) : foundOrNone(sheet.greatestTo(a, b, value));
    }

    public int median(int p, int a, int b) {
        int finding = layOutSpan(p, a, b);
        if (finding == FINE && a == b) {
            finding = NONE;
        }
        return finding != FINE ? told(finding) : goDown(a, b, (b - a - 1) / 2, topBitOf(p));
    }

    public int half(int p, int a, int b) {
        int finding = countSpan(p, a, b);
        return finding != FINE ? told(finding) : foundOrNone(tally.valueOfMoreThan((b - a) / 2));
    }

    public int often(int p, int a, int b, int n) {
        int finding = countSpan(p, a, b);
        return finding != FINE ? told(finding) : foundOrNone(tally.oftenest(n));
    }

    public int distinct(int p, int a, int b) {
        int finding = countSpan(p, a, b);
        return finding != FINE ? told(finding) : tally.countDifferent();
    }

    public long sum(int p, int a, int b, int value) {
        int finding = layOutSpan(p, a, b);
        if (finding != FINE) {
            told(finding);
            return 0L;
        }
        return sheet.weighBelow(a, b, value);
    }

    public int differ(int p, int a, int b, int q, int c) {
        int finding = findingOfPlace(p);
        if (finding == FINE) {
            finding = findingOfPlace(q);
        }
        if (finding == FINE) {
            finding = findingOfSpan(p, a, b);
        }
        // c + b - a may be beyond an int, held[q].length - (b - a) never is.
        if (finding == FINE && (c < 0 || c > held[q].length - (b - a))) {
            finding = BEYOND;
        }
        if (finding != FINE) {
            return told(finding);
        }
        sheet.layOut(held[p]);
        otherSheet.layOut(held[q]);
        tally.clear();
        tally.count(sheet, a, b, 1);
        tally.count(otherSheet, c, c + (b - a), -1);
        return foundOrNone(tally.leastUneven());
    }

    public int first(int p, int q) {
        int finding = findingOfPlace(p);
        if (finding == FINE) {
            finding = findingOfPlace(q);
        }
        if (finding != FINE) {
            return told(finding);
        }
        sheet.layOut(held[p]);
        otherSheet.layOut(held[q]);
        return foundOrNone(sheet.placeApartFrom(otherSheet));
    }

    public int step(int i) {
        if (i < 0 || i >= stepCount) {
            return told(NONE);
        }
        return steps[i];
    }

    public int found(int finding) {
        if (finding > BEYOND || finding < NONE) {
            return told(BEYOND);
        }
        return tellings[-finding];
    }

    // ---- findings

    private int told(int finding) {
        if (finding <= BEYOND && finding >= NONE) {
            tellings[-finding]++;
        }
        return finding;
    }

    private int foundOrNone(int answer) {
        return answer == NONE ? told(NONE) : answer;
    }

    private static boolean isShelfPlace(int p) {
        return p >= 0 && p < SHELF_PLACES;
    }

    private static boolean isValue(int value) {
        return value >= 0 && value <= TOP_VALUE;
    }

    private boolean isVersion(int v) {
        return v >= 0 && v < versionCount;
    }

    private int findingOfPlace(int p) {
        if (!isShelfPlace(p)) {
            return BEYOND;
        }
        return held[p] == null ? NOTHING : FINE;
    }

    private int findingOfGrown(int p) {
        int finding = findingOfPlace(p);
        if (finding != FINE) {
            return finding;
        }
        return kinds[p] == GROWN ? FINE : KIND;
    }

    private int findingOfIndex(int p, int i) {
        int finding = findingOfPlace(p);
        if (finding != FINE) {
            return finding;
        }
        return i < 0 || i >= held[p].length ? BEYOND : FINE;
    }

    private int findingOfPlane(int p, int plane) {
        int finding = findingOfPlace(p);
        if (finding != FINE) {
            return finding;
        }
        if (kinds[p] == GROWN) {
            return KIND;
        }
        return plane < 0 || plane > topBitOf(p) ? BEYOND : FINE;
    }

    private int findingOfSpan(int p, int a, int b) {
        int finding = findingOfPlace(p);
        if (finding != FINE) {
            return finding;
        }
        if (b < a) {
            return SIZE;
        }
        return a < 0 || b > held[p].length ? BEYOND : FINE;
    }

    // ---- making versions

    private boolean hasRoomFor(int places) {
        return versionCount < MOST_VERSIONS && places <= MOST_MADE - placesMade;
    }

    private Version grow(Version parent, int kept, int more) {
        Version grown = new Version(versionCount, parent, kept, more);
        parent.children++;
        history[versionCount] = grown;
        versionCount++;
        placesMade += more;
        return grown;
    }

    private int showGrown(Version shown, int r) {
        held[r] = shown;
        kinds[r] = GROWN;
        return shown.number;
    }

    // ---- laying rows out

    private int topBitOf(int p) {
        return kinds[p] == SHORT ? TOP_SHORT_BIT : TOP_BIT;
    }

    private int layOutSpan(int p, int a, int b) {
        int finding = findingOfSpan(p, a, b);
        if (finding == FINE) {
            sheet.layOut(held[p]);
        }
        return finding;
    }

    private int countSpan(int p, int a, int b) {
        int finding = layOutSpan(p, a, b);
        if (finding == FINE) {
            tally.clear();
            tally.count(sheet, a, b, 1);
        }
        return finding;
    }

    /** Puts the values in the order of a plane, and answers which of their bits it shows. */
    private int layOutPlane(int p, int plane) {
        int top = topBitOf(p);
        sheet.layOut(held[p]);
        for (int above = 0; above < plane; above++) {
            sheet.splitBy(top - above);
        }
        return top - plane;
    }

    /** The k-th least value of a span that has one; the way to it becomes the latest one. */
    private int goDown(int a, int b, int k, int top) {
        int reached = 0;
        int rest = k;
        for (int level = 0; level <= top; level++) {
            int weightOfBit = 1 << (top - level);
            int zeros = sheet.countWithin(a, b, reached, reached + weightOfBit - 1);
            steps[level] = zeros;
            if (rest >= zeros) {
                rest -= zeros;
                reached += weightOfBit;
            }
        }
        stepCount = top + 1;
        return reached;
    }

    /**
     * A version has the first places of its parent, as many as it keeps, and places of its own behind
     * them; these are the PLACES MADE, so that all versions together stay within their limit.
     */
    private static final class Version {
        private final int number;
        private final Version parent;
        private final int kept;
        private final int length;
        private final int[] ownValues;
        private final int[] ownWeights;
        private final boolean fork;
        private final int ancestors;
        private int children;

        private Version(int number, Version parent, int kept, int more) {
            int own = Math.max(more, 0);
            this.number = number;
            this.parent = parent;
            this.kept = kept;
            this.length = kept + own;
            this.ownValues = new int[own];
            this.ownWeights = new int[own];
            this.fork = parent != null && parent.children > 0;
            this.ancestors = parent == null ? 1 : parent.ancestors + 1;
        }

        private void writeOwn(int i, int value, int weight) {
            if (i >= 0 && i < ownValues.length && i < ownWeights.length) {
                ownValues[i] = value;
                ownWeights[i] = weight;
            }
        }
    }

    /** One row with all its places side by side. */
    private static final class Sheet {
        private final int[] values = new int[MOST_LENGTH];
        private final int[] weights = new int[MOST_LENGTH];
        private final int[] oneSide = new int[MOST_LENGTH];
        private int length;

        private void layOut(Version source) {
            int open = source.length;
            length = open;
            // What a version keeps is in its parent: the places still open shrink from behind.
            for (Version v = source; v != null && open > 0; v = v.parent) {
                for (int i = v.kept; i < open; i++) {
                    values[i] = v.ownValues[i - v.kept];
                    weights[i] = v.ownWeights[i - v.kept];
                }
                open = Math.min(open, v.kept);
            }
        }

        private int countBelow(int a, int b, int limit) {
            int count = 0;
            for (int i = a; i < b; i++) {
                if (values[i] < limit) {
                    count++;
                }
            }
            return count;
        }

        private int countWithin(int a, int b, int low, int high) {
            int count = 0;
            for (int i = a; i < b; i++) {
                if (values[i] >= low && values[i] <= high) {
                    count++;
                }
            }
            return count;
        }

        private long weighBelow(int a, int b, int limit) {
            long total = 0L;
            for (int i = a; i < b; i++) {
                if (values[i] < limit) {
                    total += weights[i];
                }
            }
            return total;
        }

        private int leastFrom(int a, int b, int low) {
            int least = NONE;
            for (int i = a; i < b; i++) {
                if (values[i] >= low && (least == NONE || values[i] < least)) {
                    least = values[i];
                }
            }
            return least;
        }

        private int greatestTo(int a, int b, int high) {
            int greatest = NONE;
            for (int i = a; i < b; i++) {
                if (values[i] <= high && (greatest == NONE || values[i] > greatest)) {
                    greatest = values[i];
                }
            }
            return greatest;
        }

        private int countOnes(int shown, int end) {
            int count = 0;
            for (int i = 0; i < end; i++) {
                count += (values[i] >>> shown) & 1;
            }
            return count;
        }

        /** Those with this bit 0 come first, each side in the order that it had. */
        private void splitBy(int shown) {
            int zeroCount = 0;
            int oneCount = 0;
            for (int i = 0; i < length; i++) {
                int value = values[i];
                if (((value >>> shown) & 1) == 0) {
                    values[zeroCount] = value;
                    zeroCount++;
                } else {
                    oneSide[oneCount] = value;
                    oneCount++;
                }
            }
            for (int i = 0; i < oneCount; i++) {
                values[zeroCount + i] = oneSide[i];
            }
        }

        private int placeApartFrom(Sheet other) {
            int shared = Math.min(length, other.length);
            for (int i = 0; i < shared; i++) {
                if (values[i] != other.values[i] || weights[i] != other.weights[i]) {
                    return i;
                }
            }
            return length == other.length ? NONE : shared;
        }
    }

    /** How often each value is in what was counted. */
    private static final class Tally {
        private final int[] counts = new int[TOP_VALUE + 1];
        private final int[] sharers = new int[MOST_LENGTH + 1];

        private void clear() {
            Arrays.fill(counts, 0);
        }

        private void count(Sheet sheet, int a, int b, int by) {
            for (int i = a; i < b; i++) {
                counts[sheet.values[i]] += by;
            }
        }

        private int countDifferent() {
            int different = 0;
            for (int value = 0; value <= TOP_VALUE; value++) {
                if (counts[value] != 0) {
                    different++;
                }
            }
            return different;
        }

        private int leastUneven() {
            for (int value = 0; value <= TOP_VALUE; value++) {
                if (counts[value] != 0) {
                    return value;
                }
            }
            return NONE;
        }

        private int valueOfMoreThan(int bound) {
            for (int value = 0; value <= TOP_VALUE; value++) {
                if (counts[value] > bound) {
                    return value;
                }
            }
            return NONE;
        }

        private int oftenest(int n) {
            if (n < 0) {
                return NONE;
            }
            groupByCount();
            int ahead = n;
            for (int count = MOST_LENGTH; count > 0; count--) {
                if (ahead < sharers[count]) {
                    return valueOfCount(count, ahead);
                }
                ahead -= sharers[count];
            }
            return NONE;
        }

        private void groupByCount() {
            Arrays.fill(sharers, 0);
            for (int value = 0; value <= TOP_VALUE; value++) {
                sharers[counts[value]]++;
            }
        }

        private int valueOfCount(int count, int ahead) {
            int left = ahead;
            for (int value = 0; value <= TOP_VALUE; value++) {
                if (counts[value] == count) {
                    if (left == 0) {
                        return value;
                    }
                    left--;
                }
            }
            return NONE;
        }
    }
}
