/**
 * The boundary cases that the promises 10 to 17 name, each sentence with a test of its own. refused()
 * looks, too, that nothing but found() has changed behind a call.
 */
public final class ShelfEdgesTest {
    private static final int BEYOND = Edges.BEYOND;
    private static final int NOTHING = Edges.NOTHING;
    private static final int KIND = Edges.KIND;
    private static final int NONE = Edges.NONE;

    public static void main(String[] args) {
        sealComesToR();
        sealNoPlaceR();
        sealEmptyAndLong();
        seal500Versions();
        sealPlaceP();
        sealOrder();
        sealAbove255();
        sealFromAnyKind();
        putComesToR();
        putNoPlaceR();
        putPlaceP();
        putOrder();
        put500Versions();
        takeNothingAnyMore();
        takeNoPlace();
        rowEachWhat();
        rowPlaceP();
        rowAnotherWhat();
        rowKind();
        rowOrder();
        atPlaceP();
        atNoPlaceI();
        atCutAway();
        atOrder();
        weightPlaceP();
        weightNoPlaceI();
        weightNoFinding();
        weightOrder();
        bitPlaceP();
        bitKind();
        bitNoSuchPlane();
        bitNoSuchPlace();
        bitOrder();
        onesPlaceP();
        onesKind();
        onesNoSuchPlane();
        onesNoSuchI();
        onesOrder();
        Check.end();
    }

    /** Promise 10: "The row at p comes to r as a SEALED row (short: a SHORT one): its length." */
    private static void sealComesToR() {
        Edges.comesTo("10, comes to r", "seal 0 R false", 3, 1, 3);
        Edges.comesTo("10, short comes to r", "seal 0 R true", 3, 2, 3);
        Edges.shelf("10, p stays").due("seal 0 3 false", 3).due("row 0 0", 0).due("row 0 2", 3).due("first 0 3", NONE);
        Edges.shelf("10, r is p").due("seal 0 0 false", 3).due("row 0 0", 1).due("seal 0 0 true", 3).due("row 0 0", 2);
        Edges.shelf("10, no version is made").make("seal 0 3 true").due("versions false", 7).due("about 3 2", 0);
    }

    /** Promise 10: "BEYOND: r is no place". */
    private static void sealNoPlaceR() {
        Edges.noPlaceR("10, no place r", "seal 0 R false");
        Edges.noPlaceR("10, no place r", "seal 0 R true");
    }

    /** Promise 10: an empty row, and one of 400 places. */
    private static void sealEmptyAndLong() {
        new Run("10, an empty row").due("seal 0 1 false", 0).due("seal 0 2 true", 0).due("row 1 1", 0)
            .due("row 2 0", 2);
        Edges.rowOf400("10, 400 places").due("seal 0 1 false", 400).due("seal 1 2 true", 400).due("row 2 1", 400);
    }

    /** Promise 10: a full shelf of versions still seals. */
    private static void seal500Versions() {
        Edges.versions("10, 500 versions", 500).due("seal 0 2 false", 1).due("seal 0 3 true", 1);
    }

    /** Promise 10: "Place p." */
    private static void sealPlaceP() {
        Edges.place("10, place p", "seal P 3 false", 3, 3);
        Edges.place("10, place p of short", "seal P 3 true", 3, BEYOND);
    }

    /** Promise 10: the order: NOTHING ahead of r. */
    private static void sealOrder() {
        Edges.shelf("10, order").refused("seal 12 12 true", BEYOND).refused("seal 3 12 true", NOTHING)
            .refused("seal 11 12 true", BEYOND).due("found -1", 2);
    }

    /** Promise 10: "or (short) a value is above 255", wherever it stands. */
    private static void sealAbove255() {
        Run x = new Run("10, above 255").make("push 0 255 1 0", "push 0 255 1 0", "push 0 255 1 0");
        x.due("seal 0 1 true", 3)
            .make("put 0 2", "turn 2 0 256 1", "put 0 3", "turn 3 1 256 1", "put 0 4", "turn 4 2 256 1");
        x.refused("seal 2 1 true", BEYOND).refused("seal 3 1 true", BEYOND).refused("seal 4 1 true", BEYOND);
        x.due("seal 2 5 false", 3).refused("seal 5 5 true", BEYOND).due("row 5 0", 1);
        Edges.shelf("10, 1023").refused("seal 11 3 true", BEYOND).refused("seal 11 11 true", BEYOND)
            .due("row 11 0", 0).due("seal 11 3 false", 3).due("at 3 2", 1023);
        Edges.rowOf400("10, the last of 400").make("turn 0 399 256 0").refused("seal 0 1 true", BEYOND)
            .make("cut 0 399 0").due("seal 0 1 true", 399);
    }

    /** Promise 10: "(From any kind.)" */
    private static void sealFromAnyKind() {
        for (int p = 0; p < 3; p++) {
            Edges.shelf("10, from any kind").due("seal " + p + " 3 false", 3).due("row 3 0", 1).due("at 3 1", 200)
                .due("weight 3 2", 100).due("bit 3 9 0", 0).due("seal " + p + " 4 true", 3).due("row 4 0", 2)
                .due("at 4 1", 200).due("weight 4 2", 100).refused("bit 4 8 0", BEYOND);
        }
    }

    /** Promise 11: "What is at p comes to r, too: its kind (0 GROWN, 1 SEALED, 2 SHORT)." */
    private static void putComesToR() {
        Edges.comesTo("11, grown", "put 0 R", 0, 0, 3);
        Edges.comesTo("11, sealed", "put 1 R", 1, 1, 3);
        Edges.comesTo("11, short", "put 2 R", 2, 2, 3);
        Edges.shelf("11, r is p").due("put 2 2", 2).due("row 2 0", 2).due("put 0 0", 0).due("row 0 2", 3);
        Edges.shelf("11, too").due("put 0 3", 0).due("row 0 2", 3).due("row 3 2", 3).make("push 3 9 9 3")
            .due("row 0 1", 3);
        new Run("11, an empty row").due("put 0 11", 0).due("row 11 1", 0).due("row 11 2", 0);
    }

    /** Promise 11: "BEYOND: r is no place." */
    private static void putNoPlaceR() {
        Edges.noPlaceR("11, no place r", "put 0 R");
        Edges.noPlaceR("11, no place r", "put 1 R");
        Edges.noPlaceR("11, no place r", "put 2 R");
    }

    /** Promise 11: "Place p." */
    private static void putPlaceP() {
        Edges.place("11, place p", "put P 4", 0, 0);
    }

    /** Promise 11: the order: place p ahead of r. */
    private static void putOrder() {
        Edges.shelf("11, order").refused("put 3 12", NOTHING).refused("put 12 12", BEYOND).due("found -1", 1);
    }

    /** Promise 11: a full shelf of versions refuses no put. */
    private static void put500Versions() {
        Edges.versions("11, 500 versions", 500).due("put 0 11", 0).due("row 11 2", 1);
    }

    /** Promise 12: "Nothing is at r any more: 0.", of each kind, and where there was nothing. */
    private static void takeNothingAnyMore() {
        for (int r = 0; r < 12; r++) {
            Edges.shelf("12, nothing any more").due("take " + r, 0).refused("row " + r + " 0", NOTHING)
                .due("take " + r, 0);
        }
        Edges.shelf("12, the others stay").due("take 0", 0).due("row 1 1", 3).due("row 2 1", 3).due("version 3 0", 3);
    }

    /** Promise 12: "BEYOND: r is no place." */
    private static void takeNoPlace() {
        for (String r : new String[] {"MIN", "-1", "12", "MAX"}) {
            Edges.shelf("12, no place").refused("take " + r, BEYOND);
        }
    }

    /** Promise 13: "0 its kind, 1 its length, 2 its version." */
    private static void rowEachWhat() {
        Edges.shelf("13, row").due("row 0 0", 0).due("row 1 0", 1).due("row 2 0", 2).due("row 0 1", 3).due("row 1 1", 3)
            .due("row 2 1", 3).due("row 0 2", 3).due("row 11 2", 6);
        new Run("13, an empty row").due("row 0 0", 0).due("row 0 1", 0).due("row 0 2", 0);
        Edges.rowOf400("13, 400 places").due("row 0 1", 400);
        Edges.versions("13, 500 versions", 500).due("row 1 2", 499);
    }

    /** Promise 13: "Place p.", for each what. */
    private static void rowPlaceP() {
        Edges.place("13, kind of place p", "row P 0", 0, 0);
        Edges.place("13, length of place p", "row P 1", 3, 3);
        Edges.place("13, version of place p", "row P 2", 3, 6);
    }

    /** Promise 13: "BEYOND: another what." */
    private static void rowAnotherWhat() {
        for (String what : new String[] {"MIN", "-1", "3", "MAX"}) {
            for (int p = 0; p < 3; p++) {
                Edges.shelf("13, another what").refused("row " + p + " " + what, BEYOND);
            }
        }
    }

    /** Promise 13: "KIND: it is no GROWN row (of 2)." */
    private static void rowKind() {
        Edges.shelf("13, kind").refused("row 1 2", KIND).refused("row 2 2", KIND);
    }

    /** Promise 13: the order. */
    private static void rowOrder() {
        Edges.shelf("13, order").refused("row 12 3", BEYOND).refused("row 3 3", NOTHING).refused("row 1 3", BEYOND);
    }

    /** Promise 14: "Place p." */
    private static void atPlaceP() {
        Edges.place("14, place p", "at P 0", 4, 7);
    }

    /** Promise 14: "BEYOND: it has no place i." */
    private static void atNoPlaceI() {
        for (int p = 0; p < 3; p++) {
            for (String i : new String[] {"MIN", "-1", "3", "MAX"}) {
                Edges.shelf("14, no place i").refused("at " + p + " " + i, BEYOND);
            }
            Edges.shelf("14, its ends").due("at " + p + " 0", 4).due("at " + p + " 1", 200).due("at " + p + " 2", 4);
        }
        new Run("14, an empty row").refused("at 0 0", BEYOND).refused("at 0 -1", BEYOND).make("seal 0 1 false")
            .refused("at 1 0", BEYOND);
        Edges.rowOf400("14, 400 places").make("turn 0 399 1023 1").due("at 0 399", 1023).due("at 0 398", 5)
            .refused("at 0 400", BEYOND);
    }

    /** Promise 14: a place that only the parent had. */
    private static void atCutAway() {
        Edges.shelf("14, cut away").make("cut 0 1 3").due("at 3 0", 4).refused("at 3 1", BEYOND);
    }

    /** Promise 14: the order. */
    private static void atOrder() {
        Edges.shelf("14, order").refused("at 12 9", BEYOND).refused("at 3 9", NOTHING);
    }

    /** Promise 15: "0 if at() would tell a finding (that is counted)": place p. */
    private static void weightPlaceP() {
        Edges.place("15, place p", "weight P 0", 1, 2);
    }

    /** Promise 15: the same of place i. */
    private static void weightNoPlaceI() {
        for (int p = 0; p < 3; p++) {
            for (String i : new String[] {"MIN", "-1", "3", "MAX"}) {
                Edges.shelf("15, no place i").refused("weight " + p + " " + i, BEYOND);
            }
            Edges.shelf("15, its ends").due("weight " + p + " 0", 1).due("weight " + p + " 1", 10)
                .due("weight " + p + " 2", 100);
        }
        new Run("15, an empty row").refused("weight 0 0", BEYOND);
        Edges.rowOf400("15, 400 places").make("turn 0 399 1 MIN").due("weight 0 399", Integer.MIN_VALUE)
            .refused("weight 0 400", BEYOND);
    }

    /** Promise 15: a weight that is 0 or below 0 is no finding. */
    private static void weightNoFinding() {
        Run x = new Run("15, no finding").make("push 0 1 0 0", "push 0 1 -1 0", "push 0 1 -6 0", "push 0 1 MIN 0");
        x.due("weight 0 0", 0).due("weight 0 1", -1).due("weight 0 2", -6).due("weight 0 3", Integer.MIN_VALUE);
        for (int finding = -6; finding <= -1; finding++) {
            x.due("found " + finding, 0);
        }
    }

    /** Promise 15: the order is at()'s. */
    private static void weightOrder() {
        Edges.shelf("15, order").refused("weight 12 9", BEYOND).refused("weight 3 9", NOTHING);
    }

    /** Promise 16: "Place p." */
    private static void bitPlaceP() {
        Edges.place("16, place p", "bit P 7 1", 1, 0, "seal 0 0 false", "seal 11 11 false");
    }

    /** Promise 16: "KIND: it is no SEALED one (SHORT ones are)." */
    private static void bitKind() {
        Edges.shelf("16, kind").refused("bit 0 0 0", KIND).due("bit 1 2 1", 1).due("bit 2 0 1", 1);
    }

    /** Promise 16: "BEYOND: it has no such plane": 0 to 9 of a SEALED row, 0 to 7 of a SHORT one. */
    private static void bitNoSuchPlane() {
        for (String plane : new String[] {"MIN", "-1", "10", "MAX"}) {
            Edges.shelf("16, no such plane").refused("bit 1 " + plane + " 0", BEYOND);
        }
        for (String plane : new String[] {"MIN", "-1", "8", "9", "MAX"}) {
            Edges.shelf("16, no such plane of short").refused("bit 2 " + plane + " 0", BEYOND);
        }
        Edges.shelf("16, the ends of planes").due("bit 1 0 0", 0).due("bit 1 9 0", 0).due("bit 2 0 0", 0)
            .due("bit 2 7 0", 0);
    }

    /** Promise 16: "or place." */
    private static void bitNoSuchPlace() {
        for (String i : new String[] {"MIN", "-1", "3", "MAX"}) {
            Edges.shelf("16, no such place").refused("bit 1 2 " + i, BEYOND).refused("bit 2 0 " + i, BEYOND);
        }
        Edges.shelf("16, the ends of a plane").due("bit 1 2 0", 0).due("bit 1 2 2", 0).due("bit 1 3 2", 1)
            .due("bit 2 0 2", 0).due("bit 2 1 2", 1);
        new Run("16, an empty row").make("seal 0 1 false", "seal 0 2 true").refused("bit 1 0 0", BEYOND)
            .refused("bit 1 9 0", BEYOND).refused("bit 2 7 0", BEYOND);
        // 512 stands last until plane 7, where each 5 has a bit that 512 has not.
        Edges.rowOf400("16, 400 places").make("turn 0 399 512 0", "seal 0 1 false").due("bit 1 0 399", 1)
            .due("bit 1 0 398", 0).due("bit 1 9 0", 0).due("bit 1 9 1", 1).due("bit 1 9 399", 1)
            .refused("bit 1 0 400", BEYOND);
    }

    /** Promise 16: the order. */
    private static void bitOrder() {
        Edges.shelf("16, order").refused("bit 12 10 3", BEYOND).refused("bit 3 10 3", NOTHING)
            .refused("bit 0 10 3", KIND);
    }

    /** Promise 17: "Place p." */
    private static void onesPlaceP() {
        Edges.place("17, place p", "ones P 2 3", 1, 1, "seal 0 0 false", "seal 11 11 false");
    }

    /** Promise 17: "KIND." */
    private static void onesKind() {
        Edges.shelf("17, kind").refused("ones 0 0 0", KIND).due("ones 1 2 3", 1).due("ones 2 0 3", 1);
    }

    /** Promise 17: "BEYOND: it has no such plane". */
    private static void onesNoSuchPlane() {
        for (String plane : new String[] {"MIN", "-1", "10", "MAX"}) {
            Edges.shelf("17, no such plane").refused("ones 1 " + plane + " 0", BEYOND);
        }
        for (String plane : new String[] {"MIN", "-1", "8", "9", "MAX"}) {
            Edges.shelf("17, no such plane of short").refused("ones 2 " + plane + " 0", BEYOND);
        }
        Edges.shelf("17, the ends of planes").due("ones 1 0 3", 0).due("ones 1 9 3", 0).due("ones 2 0 3", 1)
            .due("ones 2 7 3", 0);
    }

    /** Promise 17: "or i isn't 0 to its length." */
    private static void onesNoSuchI() {
        for (String i : new String[] {"MIN", "-1", "4", "MAX"}) {
            Edges.shelf("17, no such i").refused("ones 1 2 " + i, BEYOND).refused("ones 2 0 " + i, BEYOND);
        }
        Edges.shelf("17, the first i").due("ones 1 2 0", 0).due("ones 1 2 1", 0).due("ones 1 2 2", 1)
            .due("ones 1 2 3", 1)
            .due("ones 1 3 2", 0).due("ones 1 3 3", 1).due("ones 2 0 0", 0).due("ones 2 0 1", 0).due("ones 2 0 2", 1);
        new Run("17, an empty row").make("seal 0 1 false", "seal 0 2 true").due("ones 1 0 0", 0).due("ones 1 9 0", 0)
            .due("ones 2 7 0", 0).refused("ones 1 0 1", BEYOND).refused("ones 2 7 1", BEYOND)
            .refused("ones 1 0 -1", BEYOND);
        Edges.rowOf400("17, 400 places").make("seal 0 1 false").due("ones 1 9 400", 400).due("ones 1 9 399", 399)
            .due("ones 1 0 400", 0).refused("ones 1 9 401", BEYOND);
    }

    /** Promise 17: the order. */
    private static void onesOrder() {
        Edges.shelf("17, order").refused("ones 12 10 9", BEYOND).refused("ones 3 10 9", NOTHING)
            .refused("ones 0 10 9", KIND);
    }
}
