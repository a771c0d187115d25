/** Promises 18 to 31: what is asked of spans, ways, and what was found. */
public final class SpansTest {
    private static final int MIN = Integer.MIN_VALUE;
    private static final int MAX = Integer.MAX_VALUE;
    private static final int[] ROW = {5, 0, 1023, 5, 256, 255, 0, 5};

    public static void main(String[] args) {
        for (int kind = 0; kind < 2; kind++) {
            promise18Kth(kind);
            promise19Rank(kind);
            promise20Between(kind);
            promise21Next(kind);
            promise22Prior(kind);
            promise23Median(kind);
            promise24Half(kind);
            promise25Often(kind);
            promise26Distinct(kind);
            promise27Sum(kind);
        }
        spansInTheirOrder();
        promise28Differ();
        promise28DifferOrder();
        promise29First();
        promise30Step();
        promise30StepOfShort();
        promise30StepStays();
        promise31Found();
        Check.end();
    }

    /** ROW at place 1, GROWN or SEALED. */
    private static RankShelf shelf(int kind) {
        RankShelf x = Check.shelfOf(ROW);
        if (kind == 0) {
            x.put(0, 1);
        } else {
            x.seal(0, 1, false);
        }
        return x;
    }

    private static void promise18Kth(int kind) {
        RankShelf x = shelf(kind);
        int[] sorted = {0, 0, 5, 5, 5, 255, 256, 1023};
        for (int k = 0; k < sorted.length; k++) {
            Check.due("18 kth of all", x.kth(1, 0, 8, k), sorted[k]);
        }
        Check.due("18 of a part", x.kth(1, 2, 5, 1), 256);
        Check.due("18 k at the end", x.kth(1, 0, 8, 8), -6);
        Check.due("18 k below", x.kth(1, 0, 8, -1), -6);
        Check.due("18 k least", x.kth(1, 0, 8, MIN), -6);
        Check.due("18 k greatest", x.kth(1, 0, 8, MAX), -6);
        Check.due("18 no places", x.kth(1, 8, 8, 0), -6);
        RankShelf y = Check.longShelf();
        y.seal(0, 1, kind == 1);
        Check.due("18 of 400 the first", y.kth(1, 0, 400, 0), 0);
        Check.due("18 of 400 the last", y.kth(1, 0, 400, 399), 255);
        Check.due("18 of 400 no more", y.kth(1, 0, 400, 400), -6);
    }

    private static void promise19Rank(int kind) {
        RankShelf x = shelf(kind);
        Check.due("19 below 0", x.rank(1, 0, 8, 0), 0);
        Check.due("19 below 5", x.rank(1, 0, 8, 5), 2);
        Check.due("19 below 6", x.rank(1, 0, 8, 6), 5);
        Check.due("19 below 1023", x.rank(1, 0, 8, 1023), 7);
        Check.due("19 below 1024", x.rank(1, 0, 8, 1024), 8);
        Check.due("19 below the greatest", x.rank(1, 0, 8, MAX), 8);
        Check.due("19 below the least", x.rank(1, 0, 8, MIN), 0);
        Check.due("19 of a part", x.rank(1, 3, 6, 256), 2);
        Check.due("19 of no places", x.rank(1, 3, 3, MAX), 0);
    }

    private static void promise20Between(int kind) {
        RankShelf x = shelf(kind);
        Check.due("20 both counted", x.between(1, 0, 8, 5, 255), 4);
        Check.due("20 one value", x.between(1, 0, 8, 0, 0), 2);
        Check.due("20 all", x.between(1, 0, 8, MIN, MAX), 8);
        Check.due("20 low above high", x.between(1, 0, 8, 255, 5), 0);
        Check.due("20 as far apart as can be", x.between(1, 0, 8, MAX, MIN), 0);
        Check.due("20 of a part", x.between(1, 1, 4, 1, 1022), 1);
        Check.due("20 of no places", x.between(1, 0, 0, MIN, MAX), 0);
    }

    private static void promise21Next(int kind) {
        RankShelf x = shelf(kind);
        Check.due("21 itself", x.next(1, 0, 8, 5), 5);
        Check.due("21 above", x.next(1, 0, 8, 6), 255);
        Check.due("21 from the least", x.next(1, 0, 8, MIN), 0);
        Check.due("21 the last", x.next(1, 0, 8, 1023), 1023);
        Check.due("21 none above", x.next(1, 0, 8, 1024), -6);
        Check.due("21 none at the greatest", x.next(1, 0, 8, MAX), -6);
        Check.due("21 of a part", x.next(1, 3, 8, 257), -6);
        Check.due("21 of no places", x.next(1, 4, 4, 0), -6);
    }

    private static void promise22Prior(int kind) {
        RankShelf x = shelf(kind);
        Check.due("22 itself", x.prior(1, 0, 8, 255), 255);
        Check.due("22 below", x.prior(1, 0, 8, 254), 5);
        Check.due("22 to the greatest", x.prior(1, 0, 8, MAX), 1023);
        Check.due("22 the first", x.prior(1, 0, 8, 0), 0);
        Check.due("22 none below", x.prior(1, 0, 8, -1), -6);
        Check.due("22 none at the least", x.prior(1, 0, 8, MIN), -6);
        Check.due("22 of a part", x.prior(1, 2, 6, 4), -6);
        Check.due("22 of no places", x.prior(1, 4, 4, MAX), -6);
    }

    private static void promise23Median(int kind) {
        RankShelf x = shelf(kind);
        Check.due("23 of eight the lower", x.median(1, 0, 8), 5);
        Check.due("23 of two the lower", x.median(1, 1, 3), 0);
        Check.due("23 of three", x.median(1, 1, 4), 5);
        Check.due("23 of four the lower", x.median(1, 2, 6), 255);
        Check.due("23 of one", x.median(1, 2, 3), 1023);
        Check.due("23 of none", x.median(1, 2, 2), -6);
    }

    private static void promise24Half(int kind) {
        RankShelf x = shelf(kind);
        Check.due("24 of all", x.half(1, 0, 8), -6);
        Check.due("24 just half isn't more", x.half(1, 0, 2), -6);
        Check.due("24 two of four", x.half(1, 0, 4), -6);
        Check.due("24 one of one", x.half(1, 2, 3), 1023);
        Check.due("24 of none", x.half(1, 2, 2), -6);
        RankShelf y = Check.shelfOf(9, 0, 0, 9, 0);
        y.seal(0, 1, kind == 1);
        Check.due("24 three of five", y.half(1, 0, 5), 0);
        Check.due("24 two of three", y.half(1, 1, 4), 0);
        Check.due("24 two of four again", y.half(1, 0, 4), -6);
    }

    private static void promise25Often(int kind) {
        RankShelf x = shelf(kind);
        int[] order = {5, 0, 255, 256, 1023};
        for (int n = 0; n < order.length; n++) {
            Check.due("25 n-th", x.often(1, 0, 8, n), order[n]);
        }
        Check.due("25 no more", x.often(1, 0, 8, 5), -6);
        Check.due("25 below", x.often(1, 0, 8, -1), -6);
        Check.due("25 least", x.often(1, 0, 8, MIN), -6);
        Check.due("25 greatest", x.often(1, 0, 8, MAX), -6);
        Check.due("25 of a part", x.often(1, 4, 7, 2), 256);
        Check.due("25 of none", x.often(1, 4, 4, 0), -6);
        RankShelf y = Check.doubledShelf();
        y.seal(0, 1, kind == 1);
        Check.due("25 400 times", y.often(1, 0, 400, 0), 5);
        Check.due("25 and no other", y.often(1, 0, 400, 1), -6);
    }

    private static void promise26Distinct(int kind) {
        RankShelf x = shelf(kind);
        Check.due("26 of all", x.distinct(1, 0, 8), 5);
        Check.due("26 of a part", x.distinct(1, 0, 4), 3);
        Check.due("26 of none", x.distinct(1, 3, 3), 0);
        RankShelf y = Check.longShelf();
        Check.due("26 of 400", y.distinct(0, 0, 400), 256);
        Check.due("26 of its end", y.distinct(0, 256, 400), 144);
    }

    private static void promise27Sum(int kind) {
        RankShelf x = shelf(kind);
        // Weights 1, 10, 100, 1, 10, 100, 1, 10.
        Check.due("27 below 5", x.sum(1, 0, 8, 5), 11);
        Check.due("27 below 6", x.sum(1, 0, 8, 6), 23);
        Check.due("27 all", x.sum(1, 0, 8, MAX), 233);
        Check.due("27 not 1023", x.sum(1, 0, 8, 1023), 133);
        Check.due("27 none", x.sum(1, 0, 8, MIN), 0);
        Check.due("27 of a part", x.sum(1, 3, 6, 256), 101);
        Check.due("27 of no places", x.sum(1, 3, 3, MAX), 0);
        Check.due("27 nothing is found in it", x.found(-6), 0);
        Check.due("27 size", x.sum(1, 3, 2, 9), 0);
        Check.due("27 beyond", x.sum(1, 0, 9, 9), 0);
        Check.due("27 nothing", x.sum(5, 0, 0, 9), 0);
        Check.due("27 found size", x.found(-4), 1);
        Check.due("27 found beyond", x.found(-1), 1);
        Check.due("27 found nothing", x.found(-2), 1);
        RankShelf y = new RankShelf();
        y.push(0, 1, MIN, 0);
        for (int length = 1; length < 256; length *= 2) {
            y.join(0, 0, 0, length, 0);
        }
        y.seal(0, 1, kind == 1);
        Check.due("27 beyond an int", y.sum(1, 0, 256, 2), -549755813888L);
    }

    private static long askSpan(RankShelf x, int which, int p, int a, int b) {
        switch (which) {
            case 0: return x.kth(p, a, b, -1);
            case 1: return x.rank(p, a, b, 0);
            case 2: return x.between(p, a, b, 0, 0);
            case 3: return x.next(p, a, b, 5000);
            case 4: return x.prior(p, a, b, -1);
            case 5: return x.median(p, a, b);
            case 6: return x.half(p, a, b);
            case 7: return x.often(p, a, b, -1);
            default: return x.distinct(p, a, b);
        }
    }

    /** Promises 18 to 26 ask "Place p", then "Span", ahead of NONE. */
    private static void spansInTheirOrder() {
        for (int which = 0; which <= 8; which++) {
            for (int kind = 0; kind < 2; kind++) {
                RankShelf x = shelf(kind);
                String name = "span's question " + which + ": ";
                Check.due(name + "p below", askSpan(x, which, -1, 2, 1), -1);
                Check.due(name + "p above", askSpan(x, which, 12, 2, 1), -1);
                Check.due(name + "nothing ahead of size", askSpan(x, which, 2, 2, 1), -2);
                Check.due(name + "size ahead of beyond", askSpan(x, which, 1, -1, -2), -4);
                Check.due(name + "size above", askSpan(x, which, 1, 100, 99), -4);
                Check.due(name + "size far apart", askSpan(x, which, 1, MAX, MIN), -4);
                Check.due(name + "a below", askSpan(x, which, 1, -1, 8), -1);
                Check.due(name + "b above", askSpan(x, which, 1, 0, 9), -1);
                Check.due(name + "both out", askSpan(x, which, 1, 9, 9), -1);
                Check.due(name + "wide", askSpan(x, which, 1, MIN, MAX), -1);
                Check.due(name + "found beyond", x.found(-1), 6);
                Check.due(name + "found nothing", x.found(-2), 1);
                Check.due(name + "found size", x.found(-4), 3);
                Check.due(name + "found none", x.found(-6), 0);
            }
        }
    }

    private static void promise28Differ() {
        RankShelf x = Check.shelfOf(4, 7, 4, 7, 4, 9, 1023, 0);
        x.seal(0, 1, false);
        Check.due("28 the same in another order", x.differ(0, 0, 2, 1, 1), -6);
        Check.due("28 one oftener", x.differ(0, 0, 3, 1, 1), 4);
        Check.due("28 the least of them", x.differ(0, 3, 6, 1, 5), 0);
        Check.due("28 just in q", x.differ(0, 0, 1, 1, 7), 0);
        Check.due("28 just in p", x.differ(0, 7, 8, 1, 0), 0);
        Check.due("28 the greatest", x.differ(0, 6, 7, 1, 6), -6);
        Check.due("28 no places", x.differ(0, 8, 8, 1, 0), -6);
        Check.due("28 no places at the end", x.differ(0, 0, 0, 1, 8), -6);
        Check.due("28 a row with itself", x.differ(0, 0, 2, 0, 2), -6);
        Check.due("28 weights don't count", x.differ(0, 0, 1, 0, 2), -6);
        x.version(0, 2);
        x.push(2, 1023, 0, 2);
        x.version(0, 3);
        x.push(3, 1022, 0, 3);
        Check.due("28 1022 and 1023", x.differ(2, 0, 1, 3, 0), 1022);
    }

    private static void promise28DifferOrder() {
        RankShelf x = Check.shelfOf(1, 2, 3);
        x.cut(0, 2, 1);
        Check.due("28 p beyond", x.differ(12, 1, 0, 5, -1), -1);
        Check.due("28 p nothing", x.differ(5, 1, 0, 12, -1), -2);
        Check.due("28 q beyond ahead of the span", x.differ(0, 1, 0, 12, -1), -1);
        Check.due("28 q nothing ahead of the span", x.differ(0, 1, 0, 5, -1), -2);
        Check.due("28 size of p", x.differ(0, 1, 0, 1, -1), -4);
        Check.due("28 a below", x.differ(0, -1, 0, 1, 0), -1);
        Check.due("28 b above", x.differ(0, 0, 4, 1, 0), -1);
        Check.due("28 c below", x.differ(0, 0, 1, 1, -1), -1);
        Check.due("28 q's end", x.differ(0, 0, 1, 1, 2), -1);
        Check.due("28 q is too short", x.differ(0, 0, 3, 1, 0), -1);
        Check.due("28 c beyond an int", x.differ(0, 0, 3, 1, MAX), -1);
        Check.due("28 c least", x.differ(0, 0, 3, 1, MIN), -1);
        Check.due("28 up to q's end", x.differ(0, 0, 1, 1, 1), 1);
        Check.due("28 found", x.found(-1), 9);
    }

    private static void promise29First() {
        RankShelf x = Check.shelfOf(1, 2, 3);
        x.put(0, 1);
        Check.due("29 the same", x.first(0, 1), -6);
        Check.due("29 itself", x.first(0, 0), -6);
        x.seal(0, 2, true);
        Check.due("29 of another kind", x.first(0, 2), -6);
        x.turn(1, 1, 9, 10);
        Check.due("29 another value", x.first(0, 1), 1);
        x.version(3, 1);
        x.turn(1, 2, 3, 99);
        Check.due("29 another weight", x.first(2, 1), 2);
        x.turn(1, 0, 8, 1);
        Check.due("29 the first place's value", x.first(0, 1), 0);
        x.version(3, 1);
        x.turn(1, 0, 1, 2);
        Check.due("29 the first place's weight", x.first(1, 0), 0);
        x.cut(0, 2, 3);
        Check.due("29 a place more", x.first(0, 3), 2);
        Check.due("29 a place less", x.first(3, 0), 2);
        x.version(0, 4);
        Check.due("29 with an empty one", x.first(4, 0), 0);
        x.seal(4, 5, false);
        Check.due("29 both empty", x.first(4, 5), -6);
        Check.due("29 p beyond", x.first(-1, 9), -1);
        Check.due("29 p nothing", x.first(9, 12), -2);
        Check.due("29 q beyond", x.first(0, 12), -1);
        Check.due("29 q nothing", x.first(0, 9), -2);
        Check.due("29 found none", x.found(-6), 4);
    }

    private static void promise30Step() {
        for (int kind = 0; kind < 2; kind++) {
            RankShelf x = shelf(kind);
            Check.due("30 kth", x.kth(1, 0, 8, 6), 256);
            // Bit 9: seven have 0; bit 8: six; 256 has it, so then just 256 itself, all bits 0.
            int[] steps = {7, 6, 1, 1, 1, 1, 1, 1, 1, 1};
            for (int i = 0; i < 10; i++) {
                Check.due("30 step of 256", x.step(i), steps[i]);
            }
            Check.due("30 step 10", x.step(10), -6);
            Check.due("30 step -1", x.step(-1), -6);
            Check.due("30 step least", x.step(MIN), -6);
            Check.due("30 step greatest", x.step(MAX), -6);
            Check.due("30 median", x.median(1, 0, 8), 5);
            int[] stepsOf5 = {7, 6, 5, 5, 5, 5, 5, 2, 3, 0};
            for (int i = 0; i < 10; i++) {
                Check.due("30 step of 5", x.step(i), stepsOf5[i]);
            }
            Check.due("30 found none", x.found(-6), 4);
        }
    }

    private static void promise30StepOfShort() {
        RankShelf x = Check.shelfOf(5, 0, 255, 5);
        x.seal(0, 1, true);
        Check.due("30 short", x.kth(1, 0, 4, 1), 5);
        int[] steps = {3, 3, 3, 3, 3, 1, 2, 0};
        for (int i = 0; i < 8; i++) {
            Check.due("30 step of a short row", x.step(i), steps[i]);
        }
        Check.due("30 no step 8", x.step(8), -6);
        Check.due("30 grown again", x.kth(0, 0, 4, 3), 255);
        Check.due("30 step 8", x.step(8), 0);
        Check.due("30 step 9", x.step(9), 0);
        Check.due("30 short again", x.median(1, 2, 3), 255);
        Check.due("30 no step 8 again", x.step(8), -6);
    }

    /** Only a kth() or median() that found a value changes the steps. */
    private static void promise30StepStays() {
        RankShelf x = shelf(0);
        x.kth(1, 0, 8, 6);
        x.kth(1, 0, 8, 8);
        x.kth(1, 0, 9, 0);
        x.median(1, 3, 3);
        x.median(5, 0, 0);
        x.next(1, 0, 3, 0);
        x.prior(1, 0, 3, 0);
        x.half(1, 0, 1);
        x.often(1, 0, 3, 0);
        x.rank(1, 0, 3, 3);
        x.differ(1, 0, 3, 1, 0);
        x.take(1);
        int[] steps = {7, 6, 1, 1, 1, 1, 1, 1, 1, 1};
        for (int i = 0; i < 10; i++) {
            Check.due("30 step stays", x.step(i), steps[i]);
        }
    }

    private static void promise31Found() {
        RankShelf x = new RankShelf();
        Check.due("31 above", x.found(0), -1);
        Check.due("31 below", x.found(-7), -1);
        Check.due("31 least", x.found(MIN), -1);
        Check.due("31 greatest", x.found(MAX), -1);
        Check.due("31 counted, too", x.found(-1), 4);
        Check.due("31 asking isn't counted", x.found(-1), 4);
        x.at(1, 0);
        x.seal(0, 1, false);
        x.cut(1, 0, 0);
        x.cut(0, -1, 0);
        x.step(0);
        x.about(0, 1);
        x.first(0, 0);
        Check.due("31 nothing", x.found(-2), 1);
        Check.due("31 kind", x.found(-3), 1);
        Check.due("31 size", x.found(-4), 1);
        Check.due("31 full", x.found(-5), 0);
        Check.due("31 none", x.found(-6), 3);
    }
}
