/**
 * The boundary cases that the document's terms name, each sentence with a test of its own. refused()
 * looks, too, that nothing but found() has changed behind a call.
 */
public final class TermsEdgesTest {
    private static final int BEYOND = Edges.BEYOND;
    private static final int NOTHING = Edges.NOTHING;
    private static final int KIND = Edges.KIND;
    private static final int SIZE = Edges.SIZE;
    private static final int FULL = Edges.FULL;
    private static final int NONE = Edges.NONE;

    public static void main(String[] args) {
        findings();
        findingsInTheirOrder();
        beyondChangesNothing();
        nothingChangesNothing();
        kindChangesNothing();
        sizeChangesNothing();
        noneChangesNothing();
        fullChangesNothing();
        placeP();
        fiveHundredAndTwelveCalls();
        rowsOfAtMost400();
        valuesTo1023();
        weightsOfAnyInt();
        versionZero();
        placesMadeByEach();
        placesMadeAtMost();
        ancestorIsItself();
        forkIsNotTheFirst();
        shelfPlaces();
        shortValues();
        shortIsSealed();
        spanSize();
        spanBeyond();
        spanOfNone();
        spanToTheEnd();
        planesOfSealed();
        planesOfNone();
        planesKeepTheirOrder();
        planesOfShort();
        waysOfTenSteps();
        waysOfEightSteps();
        waysOfTheLatestThatFound();
        Check.end();
    }

    /** Terms: "FINDINGS are answers below 0: -1 BEYOND, -2 NOTHING, -3 KIND, -4 SIZE, -5 FULL, -6 NONE." */
    private static void findings() {
        Run x = Edges.rowOf400("terms, findings").make("seal 0 1 false");
        x.due("take 12", -1).due("at 2 0", -2).due("cut 1 0 0", -3).due("cut 0 -1 0", -4);
        x.due("push 0 1 1 0", -5).due("step 0", -6);
        for (int finding = -6; finding <= -1; finding++) {
            x.due("found " + finding, 1);
        }
    }

    /** Terms: "Each act tells its findings in the order in which they are asked here": all is wrong in each. */
    private static void findingsInTheirOrder() {
        Run x = Edges.shelf("terms, the order of findings");
        x.refused("push 12 1024 0 12", BEYOND).refused("push 3 1024 0 12", NOTHING).refused("push 1 1024 0 12", KIND);
        x.refused("cut 12 -1 12", BEYOND).refused("cut 3 -1 12", NOTHING).refused("cut 1 -1 12", KIND);
        x.refused("cut 0 -1 12", SIZE);
        x.refused("join 12 3 1 0 12", BEYOND).refused("join 3 12 1 0 12", NOTHING).refused("join 1 12 1 0 12", KIND);
        x.refused("join 0 12 1 0 12", BEYOND).refused("join 0 3 1 0 12", NOTHING).refused("join 0 0 0 -1 12", SIZE);
        x.refused("turn 12 9 -1 0", BEYOND).refused("turn 3 9 -1 0", NOTHING).refused("turn 1 9 -1 0", KIND);
        x.refused("seal 3 12 true", NOTHING).refused("put 3 12", NOTHING);
        x.refused("row 3 3", NOTHING).refused("row 1 3", BEYOND).refused("row 1 2", KIND);
        x.refused("bit 3 10 9", NOTHING).refused("bit 0 10 9", KIND).refused("bit 1 10 9", BEYOND);
        x.refused("ones 3 10 9", NOTHING).refused("ones 0 10 9", KIND).refused("ones 1 10 9", BEYOND);
        x.refused("differ 12 1 0 3 -1", BEYOND).refused("differ 3 1 0 12 -1", NOTHING);
        x.refused("differ 0 1 0 12 -1", BEYOND).refused("differ 0 1 0 3 -1", NOTHING)
            .refused("differ 0 1 0 0 -1", SIZE);
        x.refused("first 12 3", BEYOND).refused("first 3 12", NOTHING);
    }

    /** Behind a way of ten steps, so that the steps of a way that is refused would show. */
    private static void changesNothing(int finding, String... calls) {
        for (String call : calls) {
            Run x = Edges.shelf("terms, a finding changes nothing").make("kth 2 0 3 2", "kth 0 0 3 2");
            x.refused(call, finding);
        }
    }

    /** Terms: "an act that answers one changes nothing but what found() tells": BEYOND, of each act. */
    private static void beyondChangesNothing() {
        changesNothing(BEYOND, "push 0 1024 9 3", "push 0 9 9 12", "cut 0 4 3", "cut 0 1 12", "join 0 1 0 4 3",
            "join 0 1 0 1 12", "turn 0 3 9 9", "turn 0 0 1024 9", "version 7 3", "version 0 12", "about 7 0",
            "about 0 5", "common 7 0", "common 0 7", "seal 0 12 false", "seal 11 3 true", "seal 11 11 true", "put 0 12",
            "take 12", "row 0 3", "at 0 3", "weight 0 3", "bit 1 10 0", "bit 1 0 3", "ones 1 10 0", "ones 1 0 4");
        changesNothing(BEYOND, "kth 0 0 4 0", "rank 0 0 4 0", "between 0 0 4 0 9", "next 0 0 4 0", "prior 0 0 4 0",
            "median 0 0 4", "half 0 0 4", "often 0 0 4 0", "distinct 0 0 4", "sum 0 0 4 9", "differ 0 0 4 11 0",
            "differ 0 0 3 11 1", "first 0 12", "first 12 0", "found 0", "found -7");
    }

    /** Terms: "an act that answers one changes nothing but what found() tells": NOTHING, of each act. */
    private static void nothingChangesNothing() {
        changesNothing(NOTHING, "push 3 9 9 0", "cut 3 0 0", "join 3 0 0 1 0", "join 0 3 0 0 0", "turn 3 0 9 9",
            "seal 3 0 false", "seal 3 0 true", "put 3 0", "row 3 0", "at 3 0", "weight 3 0", "bit 3 0 0", "ones 3 0 0");
        changesNothing(NOTHING, "kth 3 0 0 0", "rank 3 0 0 0", "between 3 0 0 0 9", "next 3 0 0 0", "prior 3 0 0 0",
            "median 3 0 0", "half 3 0 0", "often 3 0 0 0", "distinct 3 0 0", "sum 3 0 0 9", "differ 3 0 0 0 0",
            "differ 0 0 0 3 0", "first 3 0", "first 0 3");
    }

    /** Terms: "an act that answers one changes nothing but what found() tells": KIND, of each act. */
    private static void kindChangesNothing() {
        changesNothing(KIND, "push 1 9 9 0", "push 2 9 9 2", "cut 1 0 0", "cut 2 0 2", "join 1 0 0 1 0",
            "join 2 0 0 1 2", "turn 1 0 9 9", "turn 2 0 9 9", "row 1 2", "row 2 2", "bit 0 0 0", "ones 0 0 0");
    }

    /** Terms: "an act that answers one changes nothing but what found() tells": SIZE, of each act. */
    private static void sizeChangesNothing() {
        changesNothing(SIZE, "cut 0 -1 0", "join 0 1 1 0 0", "kth 0 1 0 0", "rank 0 1 0 0", "between 0 1 0 0 9",
            "next 0 1 0 0", "prior 0 1 0 0", "median 0 1 0", "half 0 1 0", "often 0 1 0 0", "distinct 0 1 0",
            "sum 0 1 0 9", "differ 0 1 0 0 0");
    }

    /** Terms: "an act that answers one changes nothing but what found() tells": NONE, of each act. */
    private static void noneChangesNothing() {
        changesNothing(NONE, "about 0 1", "kth 0 0 3 3", "kth 2 0 3 -1", "next 0 0 3 201", "prior 0 0 3 3",
            "median 0 1 1", "half 0 0 2", "often 0 0 3 2", "differ 0 0 3 1 0", "first 0 1", "step 10", "step -1");
    }

    /** Terms: "an act that answers one changes nothing but what found() tells": FULL, of each reason. */
    private static void fullChangesNothing() {
        String name = "terms, FULL changes nothing";
        Edges.rowOf400(name).make("median 0 0 400").refused("push 0 9 9 3", FULL).refused("join 0 0 0 1 3", FULL);
        for (String call : new String[] {"push 0 9 9 3", "cut 0 0 3", "join 0 0 0 1 3", "turn 0 0 9 9"}) {
            Edges.versions(name, 500).refused(call, FULL);
        }
        for (String call : new String[] {"push 1 9 9 3", "join 1 0 0 1 3", "turn 0 399 9 9"}) {
            Edges.made(name, 20000).refused(call, FULL);
        }
    }

    /** Terms: "Place p": BEYOND if p isn't 0 .. 11, NOTHING if nothing is there; all twelve hold a row. */
    private static void placeP() {
        String name = "terms, place p";
        Edges.place(name, "at P 0", 4, 7);
        for (int p = 0; p < 12; p++) {
            Run x = Edges.shelf(name).due("put 0 " + p, 0).due("at " + p + " 1", 200);
            x.due("take " + p, 0).refused("at " + p + " 1", NOTHING);
        }
    }

    /** "An object is used for at most 512 calls after it has been made": the last of them is still answered. */
    private static void fiveHundredAndTwelveCalls() {
        Run x = new Run("what it is, 512 calls");
        for (int v = 1; v < 500; v++) {
            x.due(v % 250 == 0 ? "cut 0 0 0" : "push 0 " + v + " " + v + " 0", v);
        }
        while (x.callCount() < 511) {
            x.due("at 0 248", 499);
        }
        x.due("sum 0 0 249 500", 249L * (251 + 499) / 2);
        Check.due("what it is, calls of that run", x.callCount(), 512);
    }

    /** Term 1: "A ROW has places 0, 1, .. (at most 400)". */
    private static void rowsOfAtMost400() {
        Run x = new Run("term 1, at most 400");
        for (int i = 0; i < 400; i++) {
            x.due("push 0 " + i + " " + -i + " 0", i + 1);
        }
        x.due("row 0 1", 400).due("at 0 0", 0).due("at 0 399", 399).due("weight 0 399", -399);
        x.refused("at 0 400", BEYOND).refused("push 0 1 1 0", FULL);
        x.due("seal 0 1 false", 400).due("at 1 399", 399);
    }

    /** Term 1: "each with a VALUE 0 .. 1023". */
    private static void valuesTo1023() {
        Run x = new Run("term 1, values");
        x.due("push 0 0 0 0", 1).due("push 0 1023 0 0", 2).due("at 0 0", 0).due("at 0 1", 1023);
        x.refused("push 0 -1 0 0", BEYOND).refused("push 0 1024 0 0", BEYOND);
        x.refused("push 0 MIN 0 0", BEYOND).refused("push 0 MAX 0 0", BEYOND);
        x.due("turn 0 0 1023 0", 3).due("turn 0 1 0 0", 4).due("at 0 0", 1023).due("at 0 1", 0);
        x.refused("turn 0 0 -1 0", BEYOND).refused("turn 0 0 1024 0", BEYOND);
        x.refused("turn 0 0 MIN 0", BEYOND).refused("turn 0 0 MAX 0", BEYOND);
    }

    /** Term 1: "and a WEIGHT (an int)": every int is taken, and is kept by all kinds. */
    private static void weightsOfAnyInt() {
        Run x = new Run("term 1, weights");
        x.due("push 0 1 MIN 0", 1).due("push 0 1 MAX 0", 2).due("push 0 1 0 0", 3).due("push 0 1 -1 0", 4);
        x.due("turn 0 2 1 MIN", 5).due("turn 0 3 1 MAX", 6).due("join 0 0 0 1 0", 7);
        x.due("seal 0 1 false", 5).due("seal 0 2 true", 5);
        long[] due = {Integer.MIN_VALUE, Integer.MAX_VALUE, Integer.MIN_VALUE, Integer.MAX_VALUE, Integer.MIN_VALUE};
        for (int p = 0; p < 3; p++) {
            for (int i = 0; i < due.length; i++) {
                x.due("weight " + p + " " + i, due[i]);
            }
        }
    }

    /** Term 1: "version 0 is empty, and has none". */
    private static void versionZero() {
        Run x = Edges.shelf("term 1, version 0");
        x.due("version 0 0", 0).due("row 0 1", 0).refused("at 0 0", BEYOND).refused("about 0 1", NONE);
        x.due("about 0 0", 0).due("about 1 1", 0);
    }

    /** Term 1: "push() makes one, join() those of its span, turn() those from its place on". */
    private static void placesMadeByEach() {
        Run x = new Run("term 1, places made");
        x.due("versions true", 0).make("push 0 1 1 0").due("versions true", 1);
        x.make("push 0 2 2 0").due("versions true", 2).make("join 0 0 0 2 0").due("versions true", 4);
        x.make("join 0 0 1 3 1").due("versions true", 6).make("join 0 0 4 4 2").due("versions true", 6);
        x.make("join 0 0 0 0 2").due("versions true", 6).make("turn 0 3 9 9").due("versions true", 7);
        x.make("turn 0 2 9 9").due("versions true", 9).make("turn 0 0 9 9").due("versions true", 13);
        x.make("turn 0 0 9 9").due("versions true", 17).make("cut 0 4 3", "cut 0 0 4").due("versions true", 17);
        x.make("version 3 5", "seal 0 6 false", "seal 0 7 true", "put 0 8", "take 8").due("versions true", 17);
    }

    /** Term 1: "at most 20000 in all". */
    private static void placesMadeAtMost() {
        Run x = Edges.made("term 1, 20000 places", 19999);
        x.due("push 1 1023 7 1", 60).due("versions true", 20000).due("at 1 0", 1023);
        x.refused("push 1 1 1 3", FULL).refused("join 1 0 0 1 3", FULL).refused("turn 1 0 1 1", FULL);
        x.due("versions true", 20000);
        x.due("cut 0 399 3", 61).due("join 0 0 400 400 3", 62).due("first 0 3", NONE).due("versions true", 20000);
    }

    /** Term 1: "An ANCESTOR of a version is it itself, its parent, and so on." */
    private static void ancestorIsItself() {
        Run x = Edges.shelf("term 1, ancestors");
        x.due("about 0 4", 1).due("common 0 0", 0).due("about 1 4", 2).due("about 3 4", 4).due("common 3 3", 3);
        x.due("common 3 2", 2).due("common 1 3", 1).due("about 6 4", 4).due("common 6 3", 0);
    }

    /** Term 1: "A version is a FORK if its parent had a version made from it ahead of this one." */
    private static void forkIsNotTheFirst() {
        Run x = new Run("term 1, forks");
        x.due("about 0 3", 0).make("push 0 1 1 1").due("about 0 3", 0).due("about 1 3", 0);
        x.make("cut 0 0 2").due("about 2 3", 1).due("about 1 3", 0);
        x.make("join 0 1 0 1 3").due("about 3 3", 1).make("turn 1 0 2 2").due("about 4 3", 0);
        x.make("version 1 1", "turn 1 0 3 3").due("about 5 3", 1).due("about 4 3", 0).due("about 1 3", 0);
        // A row that was only looked at, sealed or joined behind another is no parent.
        x.make("seal 3 4 false", "join 1 3 0 1 5", "push 3 1 1 3").due("about 7 1", 3).due("about 7 3", 0);
        // A call that was refused has made none.
        Run y = new Run("term 1, forks").refused("push 0 1024 1 0", BEYOND).make("push 0 1 1 1").due("about 1 3", 0);
        y.refused("cut 1 2 1", BEYOND).make("cut 1 1 1").due("about 2 3", 0);
    }

    /** Term 2: "at first place 0 holds version 0, the others nothing", and all of 0 .. 11 hold each kind. */
    private static void shelfPlaces() {
        Run x = new Run("term 2, the shelf");
        x.due("row 0 0", 0).due("row 0 2", 0);
        for (int p = 1; p < 12; p++) {
            x.refused("row " + p + " 0", NOTHING);
        }
        for (int p = 11; p >= 0; p--) {
            x.due("seal 0 " + p + " " + (p % 2 == 0), 0).due("row " + p + " 0", p % 2 == 0 ? 2 : 1);
        }
        x.refused("seal 0 12 true", BEYOND).refused("seal 0 -1 true", BEYOND);
    }

    /** Term 2: SHORT rows "have values below 256 alone". */
    private static void shortValues() {
        Run x = new Run("term 2, short rows").make("push 0 255 1 0").due("seal 0 1 true", 1).due("at 1 0", 255);
        x.make("push 0 256 1 2").refused("seal 2 3 true", BEYOND).refused("seal 2 1 true", BEYOND);
        x.due("seal 2 3 false", 2).refused("seal 3 3 true", BEYOND).due("row 3 0", 1);
    }

    /** Term 2: "SHORT rows are a kind under SEALED ones": what asks for SEALED takes them, they are not GROWN. */
    private static void shortIsSealed() {
        Run x = Edges.shelf("term 2, short is sealed");
        x.due("bit 2 0 1", 1).due("ones 2 0 3", 1).due("row 2 0", 2).refused("row 2 2", KIND);
        x.refused("push 2 1 1 3", KIND).refused("cut 2 1 3", KIND).refused("join 2 0 0 1 3", KIND);
        x.refused("turn 2 0 1 1", KIND);
    }

    /** Term 2: "SIZE if b is below a". */
    private static void spanSize() {
        Edges.spanSize("term 2, a span's size", "distinct P A B");
    }

    /** Term 2: "BEYOND if a is below 0, or b above its length". */
    private static void spanBeyond() {
        Edges.spanBeyond("term 2, beyond the row", "distinct P A B");
    }

    /** Term 2: "its places a to b - 1 (none, if a is b)". */
    private static void spanOfNone() {
        Edges.spanTaken("term 2, a span of none", "distinct P A B", 0, 2);
        Run x = Edges.shelf("term 2, a to b - 1");
        x.due("sum 0 0 1 1024", 1).due("sum 0 1 2 1024", 10).due("sum 0 2 3 1024", 100);
        x.due("sum 0 0 2 1024", 11).due("sum 0 1 3 1024", 110).due("sum 0 0 3 1024", 111);
    }

    /** Terms 1 and 2: a span of a row of 400 places may end at 400, and not at 401. */
    private static void spanToTheEnd() {
        Run x = Edges.rowOf400("term 2, the end of 400").make("seal 0 1 false", "seal 0 2 true");
        for (int p = 0; p < 3; p++) {
            x.due("rank " + p + " 0 400 6", 400).due("rank " + p + " 399 400 6", 1).due("rank " + p + " 400 400 6", 0);
            x.refused("rank " + p + " 0 401 6", BEYOND).refused("rank " + p + " 401 401 6", BEYOND);
            x.refused("rank " + p + " 401 400 6", SIZE);
        }
    }

    /** Term 3: "plane 0 has bit 9 (the highest of 10) .. to plane 9, bit 0." */
    private static void planesOfSealed() {
        for (int bit = 9; bit >= 0; bit--) {
            Run x = new Run("term 3, planes").make("push 0 " + (1 << bit) + " 1 0", "seal 0 1 false");
            for (int plane = 0; plane < 10; plane++) {
                x.due("bit 1 " + plane + " 0", plane == 9 - bit ? 1 : 0);
            }
            x.refused("bit 1 10 0", BEYOND).refused("bit 1 -1 0", BEYOND);
        }
    }

    /** Term 3: "rows of n bits": a SEALED row of no places has planes of no bits. */
    private static void planesOfNone() {
        Run x = new Run("term 3, planes of none").make("seal 0 1 false", "seal 0 2 true");
        for (int p = 1; p < 3; p++) {
            x.due("ones " + p + " 0 0", 0).due("ones " + p + " 7 0", 0).refused("ones " + p + " 0 1", BEYOND);
            x.refused("bit " + p + " 0 0", BEYOND).refused("bit " + p + " 0 -1", BEYOND);
        }
        x.due("ones 1 9 0", 0).refused("ones 1 10 0", BEYOND).refused("ones 2 8 0", BEYOND);
    }

    /** Term 3: "those with bit 0 in their order, then those with bit 1 in theirs". */
    private static void planesKeepTheirOrder() {
        Run x = new Run("term 3, the order of planes");
        for (int value : new int[] {1023, 511, 512, 1, 0, 256}) {
            x.make("push 0 " + value + " 1 0");
        }
        x.make("seal 0 1 false");
        // Ahead of plane 1 the order is 511, 1, 0, 256, 1023, 512; ahead of plane 2 1, 0, 512, 511, 256, 1023;
        // ahead of planes 3 to 9 it is 1, 0, 512, 256, 511, 1023.
        int[][] due = {{1, 0, 1, 0, 0, 0}, {1, 0, 0, 1, 1, 0}, {0, 0, 0, 1, 0, 1}, {0, 0, 0, 0, 1, 1}};
        int[] last = {1, 0, 0, 0, 1, 1};
        for (int i = 0; i < 6; i++) {
            for (int plane = 0; plane < 10; plane++) {
                x.due("bit 1 " + plane + " " + i, plane == 9 ? last[i] : due[Math.min(plane, 3)][i]);
            }
        }
        x.due("at 1 0", 1023).due("at 1 5", 256);
    }

    /** Term 3: "A SHORT row has planes 0 to 7, of bits 7 to 0." */
    private static void planesOfShort() {
        for (int bit = 7; bit >= 0; bit--) {
            Run x = new Run("term 3, planes of short").make("push 0 " + (1 << bit) + " 1 0", "seal 0 1 true");
            for (int plane = 0; plane < 8; plane++) {
                x.due("bit 1 " + plane + " 0", plane == 7 - bit ? 1 : 0);
                x.due("ones 1 " + plane + " 1", plane == 7 - bit ? 1 : 0);
            }
            x.refused("bit 1 8 0", BEYOND).refused("bit 1 -1 0", BEYOND).refused("ones 1 8 1", BEYOND);
        }
    }

    /** Term 3: a way goes "from the highest bit (9 ..) down", of GROWN and SEALED rows. */
    private static void waysOfTenSteps() {
        int[] of4 = {3, 3, 2, 2, 2, 2, 2, 0, 2, 2};
        int[] of200 = {3, 3, 2, 0, 1, 1, 0, 1, 1, 1};
        for (int p = 0; p < 2; p++) {
            Run x = Edges.shelf("term 3, ten steps").due("kth " + p + " 0 3 1", 4);
            for (int i = 0; i < 10; i++) {
                x.due("step " + i, of4[i]);
            }
            x.refused("step 10", NONE).refused("step -1", NONE).due("kth " + p + " 0 3 2", 200);
            for (int i = 0; i < 10; i++) {
                x.due("step " + i, of200[i]);
            }
        }
        Run y = Edges.shelf("term 3, ten steps of 1023").due("kth 11 0 3 2", 1023).due("step 0", 2);
        for (int i = 1; i < 10; i++) {
            y.due("step " + i, 0);
        }
    }

    /** Term 3: "(9; of a SHORT row 7)": eight steps. */
    private static void waysOfEightSteps() {
        int[] of4 = {2, 2, 2, 2, 2, 0, 2, 2};
        Run x = Edges.shelf("term 3, eight steps").due("kth 0 0 3 0", 4).due("step 9", 2).due("median 2 0 3", 4);
        for (int i = 0; i < 8; i++) {
            x.due("step " + i, of4[i]);
        }
        x.refused("step 8", NONE).refused("step 9", NONE).due("kth 1 0 3 0", 4).due("step 8", 2).due("step 9", 2);
    }

    /** Term 3: "the latest kth(), median() that found a value": no other call has a way. */
    private static void waysOfTheLatestThatFound() {
        Run x = Edges.shelf("term 3, the latest way").refused("step 0", NONE);
        x.refused("median 0 1 1", NONE).refused("kth 0 0 3 3", NONE).refused("step 0", NONE);
        x.make("next 0 0 3 0", "prior 0 0 3 9", "half 0 0 3", "often 0 0 3 0", "rank 0 0 3 9").refused("step 0", NONE);
        x.due("median 0 1 2", 200).due("step 2", 0).due("step 0", 1).due("kth 0 0 3 0", 4).due("step 0", 3);
        x.refused("kth 0 0 3 -1", NONE).refused("kth 0 0 4 0", BEYOND).refused("median 0 3 3", NONE).due("step 0", 3);
        x.make("take 0", "push 11 1 1 11").due("step 0", 3).due("step 7", 0);
    }
}
