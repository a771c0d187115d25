/**
 * The boundary cases that the promises 18 to 31 name, each sentence with a test of its own. refused()
 * looks, too, that nothing but found() has changed behind a call.
 */
public final class SpansEdgesTest {
    private static final int BEYOND = Edges.BEYOND;
    private static final int NOTHING = Edges.NOTHING;
    private static final int SIZE = Edges.SIZE;
    private static final int NONE = Edges.NONE;

    public static void main(String[] args) {
        kthPlaceP();
        kthSpan();
        kthOrder();
        kthLeast();
        kthNone();
        kth0And1023();
        rankPlaceP();
        rankSpan();
        rankOrder();
        rankAnyInt();
        rankNoPlaces();
        betweenPlaceP();
        betweenSpan();
        betweenOrder();
        betweenBothCounted();
        betweenEndsOfInt();
        between0And1023();
        betweenNoPlaces();
        nextPlaceP();
        nextSpan();
        nextOrder();
        nextAtLeast();
        nextNone();
        next0And1023();
        nextNoPlaces();
        priorPlaceP();
        priorSpan();
        priorOrder();
        priorAtMost();
        priorNone();
        prior0And1023();
        priorNoPlaces();
        medianPlaceP();
        medianSpan();
        medianOrder();
        medianTheMiddle();
        medianOfTwoTheLower();
        median400Places();
        halfPlaceP();
        halfSpan();
        halfOrder();
        halfMore();
        halfJustHalf();
        half400Places();
        oftenPlaceP();
        oftenSpan();
        oftenOrder();
        oftenNth();
        oftenNone();
        oftenLikeOnes();
        often400Different();
        distinctPlaceP();
        distinctSpan();
        distinctOrder();
        distinctOneTo400();
        sumPlaceP();
        sumSpan();
        sumOrder();
        sumBelow();
        sumNoFinding();
        sumEndsOfInt();
        differPlaceP();
        differPlaceQ();
        differSpanOfP();
        differOrder();
        differSpanOfQ();
        differNoWrapAround();
        differLengthOfQ();
        differNone();
        differTheLeast();
        differAsOften();
        firstPlaceP();
        firstPlaceQ();
        firstOrder();
        firstValue();
        firstWeight();
        firstTheFirst();
        firstJustOne();
        firstTheSame();
        stepNoWayYet();
        stepFirstAndLast();
        step400Places();
        stepEightStay();
        foundCount();
        foundAnotherNumber();
        foundWeightAndSum();
        found511Times();
        Check.end();
    }

    /** Place 0: values from 0 on, 400 different ones; place 1: the same, SEALED. */
    private static Run different(String name) {
        Run x = new Run(name);
        for (int value = 0; value < 400; value++) {
            x.make("push 0 " + value + " " + value + " 0");
        }
        return x.make("seal 0 1 false");
    }

    /** Promise 18: "Place p." */
    private static void kthPlaceP() {
        Edges.place("18, place p", "kth P 0 3 0", 4, 7);
    }

    /** Promise 18: "Span." */
    private static void kthSpan() {
        Edges.span("18, span", "kth P A B 0", NONE, 4);
    }

    /** Promise 18: the order: place p, span, NONE. */
    private static void kthOrder() {
        Edges.spanOrder("18, order", "kth P A B -1");
    }

    /** Promise 18: "The k-th least value (0 first; as often as it is there)". */
    private static void kthLeast() {
        for (int p = 0; p < 3; p++) {
            String call = "kth " + p + " 0 3 ";
            Edges.shelf("18, k").due(call + 0, 4).due(call + 1, 4).due(call + 2, 200);
        }
    }

    /** Promise 18: "NONE: there is no k-th one." */
    private static void kthNone() {
        for (int p = 0; p < 3; p++) {
            String call = "kth " + p + " 0 3 ";
            for (String k : new String[] {"MIN", "-1", "3", "MAX"}) {
                Edges.shelf("18, no k-th").refused(call + k, NONE);
            }
            Edges.shelf("18, a span's k-th").due("kth " + p + " 1 3 1", 200).refused("kth " + p + " 1 3 2", NONE);
        }
    }

    /** Promise 18: the ends of values, and a row of 400 places. */
    private static void kth0And1023() {
        new Run("18, 0 and 1023").make("push 0 1023 1 0", "push 0 0 1 0").due("kth 0 0 2 0", 0)
            .due("kth 0 0 2 1", 1023);
        different("18, 400 places").due("kth 0 0 400 0", 0).due("kth 1 0 400 399", 399)
            .refused("kth 0 0 400 400", NONE);
        Edges.rowOf400("18, 400 times").due("kth 0 0 400 399", 5).refused("kth 0 0 400 400", NONE);
    }

    /** Promise 19: "Place p." */
    private static void rankPlaceP() {
        Edges.place("19, place p", "rank P 0 3 9", 2, 2);
    }

    /** Promise 19: "Span." */
    private static void rankSpan() {
        Edges.span("19, span", "rank P A B 9", 0, 2);
    }

    /** Promise 19: the order: place p, span. */
    private static void rankOrder() {
        Edges.spanOrder("19, order", "rank P A B 9");
    }

    /** Promise 19: "a value below one (any int)". */
    private static void rankAnyInt() {
        for (int p = 0; p < 3; p++) {
            String call = "rank " + p + " 0 3 ";
            Edges.shelf("19, any int").due(call + "MIN", 0).due(call + -1, 0).due(call + 0, 0).due(call + 4, 0)
                .due(call + 5, 2)
                .due(call + 200, 2).due(call + 201, 3).due(call + 1024, 3).due(call + "MAX", 3);
        }
        Run x = Edges.shelf("19, 1023").due("rank 11 0 3 1023", 2).due("rank 11 0 3 1024", 3).due("rank 11 0 3 MAX", 3);
        x.make("push 11 0 0 11").due("rank 11 0 4 0", 0).due("rank 11 0 4 1", 1).due("rank 11 0 4 MIN", 0);
    }

    /** Promise 19: a span of no places has none below the greatest int. */
    private static void rankNoPlaces() {
        Edges.shelf("19, no places").due("rank 0 3 3 MAX", 0).due("rank 0 0 0 MIN", 0);
        different("19, 400 places").due("rank 0 0 400 399", 399).due("rank 1 0 400 400", 400);
    }

    /** Promise 20: "Place p." */
    private static void betweenPlaceP() {
        Edges.place("20, place p", "between P 0 3 4 8", 2, 2);
    }

    /** Promise 20: "Span." */
    private static void betweenSpan() {
        Edges.span("20, span", "between P A B 4 8", 0, 2);
    }

    /** Promise 20: the order: place p, span. */
    private static void betweenOrder() {
        Edges.spanOrder("20, order", "between P A B 4 8");
    }

    /** Promise 20: "from low to high (both counted)". */
    private static void betweenBothCounted() {
        for (int p = 0; p < 3; p++) {
            String call = "between " + p + " 0 3 ";
            Edges.shelf("20, both counted").due(call + "4 200", 3).due(call + "5 200", 1).due(call + "4 199", 2)
                .due(call + "5 199", 0).due(call + "4 4", 2).due(call + "200 200", 1).due(call + "3 3", 0);
        }
    }

    /** Promise 20: "from low to high" at the ends of int, and with low above high. */
    private static void betweenEndsOfInt() {
        for (int p = 0; p < 3; p++) {
            String call = "between " + p + " 0 3 ";
            Edges.shelf("20, ends of int").due(call + "200 4", 0).due(call + "5 4", 0).due(call + "MIN MAX", 3)
                .due(call + "MAX MIN", 0).due(call + "MIN MIN", 0).due(call + "MAX MAX", 0).due(call + "MIN 4", 2)
                .due(call + "200 MAX", 1);
        }
    }

    /** Promise 20 and term 1: values at the ends of 0 .. 1023. */
    private static void between0And1023() {
        new Run("20, 0 and 1023").make("push 0 0 1 0", "push 0 1023 1 0").due("between 0 0 2 0 1023", 2)
            .due("between 0 0 2 1 1022", 0).due("between 0 0 2 -1 0", 1).due("between 0 0 2 1023 1024", 1);
    }

    /** Promise 20: a span of no places, and a row of 400. */
    private static void betweenNoPlaces() {
        Edges.shelf("20, no places").due("between 0 3 3 MIN MAX", 0);
        different("20, 400 places").due("between 0 0 400 0 399", 400).due("between 1 0 400 1 398", 398);
    }

    /** Promise 21: "Place p." */
    private static void nextPlaceP() {
        Edges.place("21, place p", "next P 0 3 4", 4, 7);
    }

    /** Promise 21: "Span." */
    private static void nextSpan() {
        Edges.span("21, span", "next P A B 4", NONE, 4);
    }

    /** Promise 21: the order: place p, span, NONE. */
    private static void nextOrder() {
        Edges.spanOrder("21, order", "next P A B 1024");
    }

    /** Promise 21: "The least value of the span that is at least one." */
    private static void nextAtLeast() {
        for (int p = 0; p < 3; p++) {
            String call = "next " + p + " 0 3 ";
            Edges.shelf("21, at least").due(call + "MIN", 4).due(call + 0, 4).due(call + 4, 4).due(call + 5, 200)
                .due(call + 200, 200);
        }
    }

    /** Promise 21: "NONE." */
    private static void nextNone() {
        for (int p = 0; p < 3; p++) {
            String call = "next " + p + " 0 3 ";
            for (String value : new String[] {"201", "1023", "1024", "MAX"}) {
                Edges.shelf("21, none").refused(call + value, NONE);
            }
            Edges.shelf("21, in the span alone").refused("next " + p + " 2 3 5", NONE).due("next " + p + " 1 2 0", 200);
        }
    }

    /** Promise 21 and term 1: values at the ends of 0 .. 1023. */
    private static void next0And1023() {
        new Run("21, 0 and 1023").make("push 0 0 1 0", "push 0 1023 1 0").due("next 0 0 2 0", 0)
            .due("next 0 0 2 1", 1023)
            .due("next 0 0 2 1023", 1023).refused("next 0 0 2 1024", NONE).due("next 0 0 2 -1", 0);
    }

    /** Promise 21: a span of no places, and a row of 400. */
    private static void nextNoPlaces() {
        Edges.shelf("21, no places").refused("next 0 3 3 MIN", NONE);
        different("21, 400 places").due("next 0 0 400 399", 399).refused("next 1 0 399 399", NONE);
    }

    /** Promise 22: "Place p." */
    private static void priorPlaceP() {
        Edges.place("22, place p", "prior P 0 3 199", 4, 8);
    }

    /** Promise 22: "Span." */
    private static void priorSpan() {
        Edges.span("22, span", "prior P A B 199", NONE, 4);
    }

    /** Promise 22: the order: place p, span, NONE. */
    private static void priorOrder() {
        Edges.spanOrder("22, order", "prior P A B -1");
    }

    /** Promise 22: "The greatest one that is at most one." */
    private static void priorAtMost() {
        for (int p = 0; p < 3; p++) {
            String call = "prior " + p + " 0 3 ";
            Edges.shelf("22, at most").due(call + "MAX", 200).due(call + 200, 200).due(call + 199, 4).due(call + 4, 4);
        }
    }

    /** Promise 22: "NONE." */
    private static void priorNone() {
        for (int p = 0; p < 3; p++) {
            String call = "prior " + p + " 0 3 ";
            for (String value : new String[] {"3", "0", "-1", "MIN"}) {
                Edges.shelf("22, none").refused(call + value, NONE);
            }
            Edges.shelf("22, in the span alone").refused("prior " + p + " 1 2 199", NONE)
                .due("prior " + p + " 2 3 200", 4);
        }
    }

    /** Promise 22 and term 1: values at the ends of 0 .. 1023. */
    private static void prior0And1023() {
        new Run("22, 0 and 1023").make("push 0 0 1 0", "push 0 1023 1 0").due("prior 0 0 2 0", 0)
            .due("prior 0 0 2 1022", 0)
            .due("prior 0 0 2 1023", 1023).due("prior 0 0 2 1024", 1023).refused("prior 0 0 2 -1", NONE);
    }

    /** Promise 22: a span of no places, and a row of 400. */
    private static void priorNoPlaces() {
        Edges.shelf("22, no places").refused("prior 0 3 3 MAX", NONE);
        different("22, 400 places").due("prior 0 0 400 MAX", 399).refused("prior 1 1 400 0", NONE);
    }

    /** Promise 23: "Place p." */
    private static void medianPlaceP() {
        Edges.place("23, place p", "median P 0 3", 4, 8);
    }

    /** Promise 23: "Span." and "NONE: it has no places." */
    private static void medianSpan() {
        Edges.span("23, span", "median P A B", NONE, 4);
    }

    /** Promise 23: the order: place p, span, NONE. */
    private static void medianOrder() {
        Edges.spanOrder("23, order", "median P A B");
    }

    /** Promise 23: "The one in the middle". */
    private static void medianTheMiddle() {
        for (int p = 0; p < 3; p++) {
            String call = "median " + p + " ";
            Edges.shelf("23, the middle").due(call + "0 1", 4).due(call + "1 2", 200).due(call + "0 2", 4)
                .due(call + "1 3", 4)
                .due(call + "0 3", 4);
        }
    }

    /** Promise 23: "(of two the lower one)". */
    private static void medianOfTwoTheLower() {
        Run x = new Run("23, of two the lower").make("push 0 1023 1 0", "push 0 0 1 0", "push 0 9 1 0", "push 0 8 1 0");
        x.due("median 0 0 1", 1023).due("median 0 0 2", 0).due("median 0 0 3", 9).due("median 0 0 4", 8);
    }

    /** Promise 23 and term 1: a row of 400 places. */
    private static void median400Places() {
        different("23, 400 places").due("median 0 0 400", 199).due("median 1 0 399", 199).due("median 0 1 400", 200)
            .refused("median 0 400 400", NONE);
    }

    /** Promise 24: "Place p." */
    private static void halfPlaceP() {
        Edges.place("24, place p", "half P 0 3", 4, NONE);
    }

    /** Promise 24: "Span." */
    private static void halfSpan() {
        Edges.span("24, span", "half P A B", NONE, 4);
    }

    /** Promise 24: the order: place p, span, NONE. */
    private static void halfOrder() {
        Edges.spanOrder("24, order", "half P A B");
    }

    /** Promise 24: "more than half of its places", "NONE: none is." */
    private static void halfMore() {
        for (int p = 0; p < 3; p++) {
            String call = "half " + p + " ";
            Edges.shelf("24, more than half").due(call + "0 3", 4).due(call + "1 2", 200).refused(call + "0 2", NONE)
                .refused(call + "1 3", NONE);
        }
    }

    /** Promise 24: just half is not more than half. */
    private static void halfJustHalf() {
        Run x = new Run("24, just half")
            .make("push 0 0 1 0", "push 0 1023 1 0", "push 0 1023 1 0", "push 0 0 1 0", "push 0 0 1 0");
        x.refused("half 0 0 4", NONE).due("half 0 0 5", 0).due("half 0 1 3", 1023).due("half 0 0 3", 1023);
        x.refused("half 0 0 2", NONE).due("half 0 0 1", 0);
    }

    /** Promise 24: 200 of 400 places, and 201 of them. */
    private static void half400Places() {
        Run y = Edges.rowOf400("24, 400 places").due("half 0 0 400", 5)
            .make("cut 0 200 1", "version 0 2", "push 2 9 1 2");
        for (int length = 1; length <= 64; length *= 2) {
            y.make("join 2 2 0 " + length + " 2");
        }
        y.make("join 2 2 0 72 2", "join 1 2 0 200 1").due("row 1 1", 400).refused("half 1 0 400", NONE);
        y.due("half 1 0 399", 5).due("half 1 1 400", 9).make("turn 1 399 5 1").due("half 1 0 400", 5);
        y.refused("half 1 1 399", NONE);
    }

    /** Promise 25: "Place p." */
    private static void oftenPlaceP() {
        Edges.place("25, place p", "often P 0 3 0", 4, 7);
    }

    /** Promise 25: "Span." */
    private static void oftenSpan() {
        Edges.span("25, span", "often P A B 0", NONE, 4);
    }

    /** Promise 25: the order: place p, span, NONE. */
    private static void oftenOrder() {
        Edges.spanOrder("25, order", "often P A B -1");
    }

    /** Promise 25: "The n-th value (0 first)". */
    private static void oftenNth() {
        for (int p = 0; p < 3; p++) {
            String call = "often " + p + " 0 3 ";
            Edges.shelf("25, n").due(call + 0, 4).due(call + 1, 200);
        }
    }

    /** Promise 25: "NONE: there are not so many different ones." */
    private static void oftenNone() {
        for (int p = 0; p < 3; p++) {
            String call = "often " + p + " 0 3 ";
            for (String n : new String[] {"MIN", "-1", "2", "3", "MAX"}) {
                Edges.shelf("25, not so many").refused(call + n, NONE);
            }
        }
    }

    /** Promise 25: "oftenest first, of like ones the lesser first". */
    private static void oftenLikeOnes() {
        Run x = new Run("25, like ones");
        for (int value : new int[] {1023, 9, 0, 1023, 0, 8, 9}) {
            x.make("push 0 " + value + " 1 0");
        }
        x.due("often 0 0 7 0", 0).due("often 0 0 7 1", 9).due("often 0 0 7 2", 1023).due("often 0 0 7 3", 8);
        x.refused("often 0 0 7 4", NONE).due("often 0 0 3 0", 0).due("often 0 0 3 2", 1023).due("often 0 0 4 0", 1023);
    }

    /** Promise 25: 400 different ones, and one that is there 400 times. */
    private static void often400Different() {
        different("25, 400 different").due("often 0 0 400 0", 0).due("often 1 0 400 399", 399)
            .refused("often 0 0 400 400", NONE);
        Edges.rowOf400("25, 400 times").due("often 0 0 400 0", 5).refused("often 0 0 400 1", NONE);
        Edges.rowOf400("25, 399 times").make("turn 0 0 0 0").due("often 0 0 400 0", 5).due("often 0 0 400 1", 0)
            .refused("often 0 0 400 2", NONE);
    }

    /** Promise 26: "Place p." */
    private static void distinctPlaceP() {
        Edges.place("26, place p", "distinct P 0 3", 2, 3);
    }

    /** Promise 26: "Span." A span of no places has no values. */
    private static void distinctSpan() {
        Edges.span("26, span", "distinct P A B", 0, 2);
    }

    /** Promise 26: the order: place p, span. */
    private static void distinctOrder() {
        Edges.spanOrder("26, order", "distinct P A B");
    }

    /** Promise 26: "How many different values it has.": from one to 400. */
    private static void distinctOneTo400() {
        Edges.shelf("26, one place").due("distinct 0 1 2", 1).due("distinct 0 0 2", 2);
        Edges.rowOf400("26, one value").due("distinct 0 0 400", 1);
        different("26, 400 values").due("distinct 0 0 400", 400).due("distinct 1 0 399", 399)
            .due("distinct 0 400 400", 0);
        new Run("26, 0 and 1023").make("push 0 0 1 0", "push 0 1023 1 0").due("distinct 0 0 2", 2);
    }

    /** Promise 27: "Place p." 0 with a finding, that is counted. */
    private static void sumPlaceP() {
        Edges.place("27, place p", "sum P 0 3 9", 101, 22);
    }

    /** Promise 27: "Span." 0 with a finding, that is counted. */
    private static void sumSpan() {
        Edges.span("27, span", "sum P A B 9", 0, 101);
    }

    /** Promise 27: the order: place p, span. */
    private static void sumOrder() {
        Edges.spanOrder("27, order", "sum P A B 9");
    }

    /** Promise 27: "whose value is below one", of any int. */
    private static void sumBelow() {
        for (int p = 0; p < 3; p++) {
            String call = "sum " + p + " 0 3 ";
            Edges.shelf("27, below").due(call + "MIN", 0).due(call + 0, 0).due(call + 4, 0).due(call + 5, 101)
                .due(call + 200, 101)
                .due(call + 201, 111).due(call + "MAX", 111).due("found -6", 0);
        }
        Edges.shelf("27, 1023").due("sum 11 0 3 1023", 22).due("sum 11 0 3 1024", 222);
    }

    /** Promise 27: a sum below 0 is no finding. */
    private static void sumNoFinding() {
        Run x = new Run("27, no finding").make("push 0 1 -1 0", "push 0 1 -5 0").due("sum 0 0 1 2", -1)
            .due("sum 0 0 2 2", -6);
        for (int finding = -6; finding <= -1; finding++) {
            x.due("found " + finding, 0);
        }
    }

    /** Promise 27: 400 weights at the ends of int are more than an int holds. */
    private static void sumEndsOfInt() {
        for (String weight : new String[] {"MIN", "MAX"}) {
            Run y = new Run("27, ends of int").make("push 0 5 " + weight + " 0");
            for (int length = 1; length <= 128; length *= 2) {
                y.make("join 0 0 0 " + length + " 0");
            }
            y.make("join 0 0 0 144 0", "seal 0 1 false", "seal 0 2 true");
            for (int p = 0; p < 3; p++) {
                y.due("sum " + p + " 0 400 6", weight.equals("MIN") ? -858993459200L : 858993458800L);
                y.due("sum " + p + " 0 400 5", 0).due("sum " + p + " 400 400 6", 0);
            }
        }
    }

    /** Promise 28: "Place p". */
    private static void differPlaceP() {
        Edges.place("28, place p", "differ P 0 1 1 0", NONE, 4);
    }

    /** Promise 28: "place q". */
    private static void differPlaceQ() {
        Edges.place("28, place q", "differ 1 0 1 P 0", NONE, 4);
    }

    /** Promise 28: "Span of p". */
    private static void differSpanOfP() {
        Edges.span("28, span of p", "differ P A B 11 0", NONE, 4);
    }

    /** Promise 28: the order: both places ahead of both spans, and p's span ahead of q's. */
    private static void differOrder() {
        Edges.shelf("28, order").refused("differ 12 1 0 3 -1", BEYOND).refused("differ 3 1 0 12 -1", NOTHING)
            .refused("differ 0 1 0 12 -1", BEYOND).refused("differ 0 1 0 3 -1", NOTHING)
            .refused("differ 0 1 0 11 -1", SIZE)
            .refused("differ 0 0 4 11 0", BEYOND).refused("differ 0 0 3 11 1", BEYOND);
    }

    /** Promise 28: "of q (c, c + b - a)": c below 0, and the end above q's length. */
    private static void differSpanOfQ() {
        for (int q = 0; q < 3; q++) {
            String call = "differ 11 0 2 " + q + " ";
            for (String c : new String[] {"MIN", "-1", "2", "3", "4", "MAX"}) {
                Edges.shelf("28, span of q").refused(call + c, BEYOND);
            }
            Edges.shelf("28, span of q, taken").due(call + 0, 4).due(call + 1, 4).due("differ 11 0 1 " + q + " 1", 7);
            // Promise 28: spans of no places may stand at q's end, and not beyond.
            Edges.shelf("28, no places of q").refused("differ 11 0 0 " + q + " 0", NONE)
                .refused("differ 11 3 3 " + q + " 3", NONE).refused("differ 11 0 0 " + q + " 4", BEYOND)
                .refused("differ 11 0 0 " + q + " -1", BEYOND).refused("differ 11 0 0 " + q + " MAX", BEYOND)
                .refused("differ 11 0 0 " + q + " MIN", BEYOND);
        }
    }

    /** Promise 28: c + b - a above the greatest int is beyond the row, no wrap-around. */
    private static void differNoWrapAround() {
        Edges.shelf("28, no wrap-around").refused("differ 0 0 3 11 MAX", BEYOND).refused("differ 0 2 3 11 MAX", BEYOND)
            .refused("differ 0 0 3 11 2147483645", BEYOND).due("found -4", 0);
    }

    /** Promise 28: it is q's length that counts, be it shorter or longer than p's. */
    private static void differLengthOfQ() {
        Edges.shelf("28, q is shorter").make("version 1 3").refused("differ 0 0 2 3 0", BEYOND)
            .due("differ 0 1 2 3 0", 4);
        Edges.shelf("28, q is longer").make("push 0 1 1 3").due("differ 0 0 3 3 1", 1)
            .refused("differ 0 0 3 3 2", BEYOND);
        new Run("28, empty rows").refused("differ 0 0 0 0 0", NONE).refused("differ 0 0 0 0 1", BEYOND)
            .refused("differ 0 0 1 0 0", BEYOND);
        Edges.rowOf400("28, 400 places").make("put 0 1", "turn 1 399 1022 1").due("differ 0 0 400 1 0", 5)
            .refused("differ 0 0 400 1 1", BEYOND).refused("differ 0 0 399 1 0", NONE).due("differ 0 0 399 1 1", 5);
    }

    /** Promise 28: "NONE: all are.": the same values, in any order, of any weights and kinds. */
    private static void differNone() {
        Edges.shelf("28, none").refused("differ 0 0 3 0 0", NONE).refused("differ 0 0 3 1 0", NONE)
            .refused("differ 1 0 2 2 1", NONE).refused("differ 0 0 1 0 2", NONE);
    }

    /** Promise 28: "The least value that" they "have not as often as one another". */
    private static void differTheLeast() {
        Run x = new Run("28, the least").make("push 0 1023 1 0", "push 0 0 1 0", "push 0 1022 1 0", "push 0 1022 1 0");
        x.due("differ 0 0 1 0 2", 1022).due("differ 0 2 3 0 0", 1022).due("differ 0 0 1 0 1", 0)
            .due("differ 0 1 2 0 0", 0);
        x.due("differ 0 0 2 0 2", 0).due("differ 0 1 3 0 2", 0).refused("differ 0 2 3 0 3", NONE);
    }

    /** Promise 28: as often counts, not only whether it is there. */
    private static void differAsOften() {
        Edges.shelf("28, as often").make("push 0 200 1 3").due("differ 3 0 3 3 1", 4).due("differ 3 1 4 3 0", 4)
            .refused("differ 3 0 2 3 2", NONE);
    }

    /** Promise 29: "Place p". */
    private static void firstPlaceP() {
        Edges.place("29, place p", "first P 1", NONE, 0);
    }

    /** Promise 29: "place q". */
    private static void firstPlaceQ() {
        Edges.place("29, place q", "first 1 P", NONE, 0);
    }

    /** Promise 29: the order. */
    private static void firstOrder() {
        Edges.shelf("29, order").refused("first 12 3", BEYOND).refused("first 3 12", NOTHING);
    }

    /** Promise 29: "another value", at the first and at the last place. */
    private static void firstValue() {
        Edges.shelf("29, value").make("put 0 3", "turn 3 0 5 1").due("first 0 3", 0).due("first 3 0", 0);
        Edges.shelf("29, value").make("put 0 3", "turn 3 2 5 100").due("first 0 3", 2).due("first 3 0", 2);
    }

    /** Promise 29: "or weight". */
    private static void firstWeight() {
        Edges.shelf("29, weight").make("put 0 3", "turn 3 0 4 2").due("first 0 3", 0).due("first 3 0", 0);
        Edges.shelf("29, weight").make("put 0 3", "turn 3 2 4 MIN").due("first 0 3", 2).due("first 3 0", 2);
    }

    /** Promise 29: the first of several. */
    private static void firstTheFirst() {
        Edges.shelf("29, the first").make("put 0 3", "turn 3 2 5 5", "turn 3 1 5 5").due("first 0 3", 1);
    }

    /** Promise 29: "or at which just one of them has a place." */
    private static void firstJustOne() {
        Edges.shelf("29, just one").make("cut 0 2 3", "cut 0 0 4").due("first 0 3", 2).due("first 3 0", 2)
            .due("first 4 0", 0).due("first 0 4", 0).due("first 4 3", 0);
        Edges.shelf("29, another one ahead").make("cut 0 2 3", "turn 3 1 5 5").due("first 0 3", 1).due("first 3 0", 1);
    }

    /** Promise 29: "NONE: they are the same.", of any kinds, empty ones, too. */
    private static void firstTheSame() {
        Edges.shelf("29, the same").refused("first 0 0", NONE).refused("first 0 1", NONE).refused("first 2 1", NONE)
            .make("version 0 3", "cut 0 0 4", "seal 3 5 true").refused("first 3 4", NONE).refused("first 5 4", NONE);
        Run x = Edges.rowOf400("29, 400 places")
            .make("put 0 1", "turn 1 399 6 2", "put 0 2", "turn 2 399 5 3", "cut 0 399 3");
        x.due("first 0 1", 399).due("first 2 0", 399).due("first 0 3", 399).due("first 3 0", 399);
        x.make("turn 1 399 5 2").refused("first 0 1", NONE);
    }

    /** Promise 30: "NONE: there is none such.": none at all ahead of the first way. */
    private static void stepNoWayYet() {
        Edges.shelf("30, no way yet").refused("step 0", NONE).refused("step -1", NONE).refused("step MIN", NONE)
            .refused("step MAX", NONE);
    }

    /** Promise 30: "Step i (0 the highest bit's).": 0 to 9, of a SHORT row 0 to 7. */
    private static void stepFirstAndLast() {
        for (int p = 0; p < 3; p++) {
            int last = p == 2 ? 7 : 9;
            for (String way : new String[] {"kth " + p + " 0 3 0", "median " + p + " 0 3"}) {
                Run x = Edges.shelf("30, steps").make(way).due("step 0", p == 2 ? 2 : 3).due("step " + last, 2);
                x.refused("step " + (last + 1), NONE).refused("step -1", NONE).refused("step MIN", NONE);
                x.refused("step MAX", NONE).refused("step 10", NONE);
            }
        }
    }

    /** Promise 30: 400 places at a step, and none. */
    private static void step400Places() {
        Run y = Edges.rowOf400("30, 400 places").make("kth 0 0 400 399");
        int[] of5 = {400, 400, 400, 400, 400, 400, 400, 0, 400, 0};
        for (int i = 0; i < 10; i++) {
            y.due("step " + i, of5[i]);
        }
    }

    /** Promise 30 and term 3: a way that found nothing leaves the steps, be they eight or ten. */
    private static void stepEightStay() {
        Edges.shelf("30, eight stay").make("kth 2 0 3 0").refused("kth 0 0 3 3", NONE).refused("median 0 0 0", NONE)
            .refused("step 8", NONE).due("step 0", 2);
        Edges.shelf("30, ten stay").make("median 0 0 3").refused("kth 2 0 3 3", NONE).refused("median 2 0 0", NONE)
            .due("step 9", 2).due("step 0", 3);
    }

    /** Promise 31: "How many acts have answered a finding (-1 .. -6)": none at first, then one more each time. */
    private static void foundCount() {
        for (int finding = -6; finding <= -1; finding++) {
            Run x = Edges.rowOf400("31, count").make("seal 0 1 false").due("found " + finding, 0);
            String[] calls = {"take 12", "row 2 0", "row 1 2", "median 0 1 0", "push 0 1 1 0", "step 0"};
            for (int times = 1; times <= 3; times++) {
                x.refused(calls[-1 - finding], finding).due("found " + finding, times).due("found " + finding, times);
            }
            for (int other = -6; other <= -1; other++) {
                x.due("found " + other, other == finding ? 3 : 0);
            }
        }
    }

    /** Promise 31: "BEYOND: another number (counted, too)." */
    private static void foundAnotherNumber() {
        int count = 0;
        Run y = new Run("31, another number");
        for (String number : new String[] {"MIN", "-7", "0", "1", "6", "MAX"}) {
            count++;
            y.refused("found " + number, BEYOND).due("found -1", count);
        }
        y.due("found -6", 0);
    }

    /** Promises 15, 27 and 31: weight() and sum() answer 0, and count as well. */
    private static void foundWeightAndSum() {
        Edges.shelf("31, weight and sum").refused("weight 0 3", BEYOND).refused("sum 0 0 4 9", BEYOND)
            .due("found -1", 2)
            .refused("weight 3 0", NOTHING).refused("sum 3 0 0 9", NOTHING).due("found -2", 2)
            .refused("sum 0 1 0 9", SIZE)
            .due("found -4", 1);
    }

    /** Promise 31: as many as there are calls. */
    private static void found511Times() {
        Run z = new Run("31, 511 times");
        while (z.callCount() < 511) {
            z.due("step 0", NONE);
        }
        z.due("found -6", 511);
    }
}
