/**
 * The boundary cases that the promises 1 to 9 name, each sentence with a test of its own. refused()
 * looks, too, that nothing but found() has changed behind a call.
 */
public final class VersionsEdgesTest {
    private static final int BEYOND = Edges.BEYOND;
    private static final int NOTHING = Edges.NOTHING;
    private static final int KIND = Edges.KIND;
    private static final int SIZE = Edges.SIZE;
    private static final int FULL = Edges.FULL;
    private static final int NONE = Edges.NONE;

    public static void main(String[] args) {
        newObjectVersion0Alone();
        newObjectNoSteps();
        newObjectNothingFound();
        pushComesToR();
        pushNoPlaceR();
        pushAnEmptyRow();
        pushPlaceP();
        pushKind();
        pushValue();
        pushOrder();
        push400Places();
        push500Versions();
        push20000Places();
        pushFullIsLast();
        cutComesToR();
        cutNoPlaceR();
        cutPlaceP();
        cutKind();
        cutSize();
        cutLess();
        cutAnEmptyRow();
        cut400Places();
        cutOrder();
        cut500Versions();
        cutFullIsLast();
        cut20000Places();
        joinComesToR();
        joinNoPlaceR();
        joinWithItself();
        joinPlaceP();
        joinKind();
        joinPlaceQ();
        joinQOfAnyKind();
        joinOrder();
        joinSpanOfQSize();
        joinSpanOfQBeyond();
        joinSpanOfQTaken();
        join400Places();
        join500Versions();
        join20000Places();
        joinFullIsLast();
        turnComesToP();
        turnPlacesBehind();
        turnTheSameAgain();
        turnPlaceP();
        turnKind();
        turnNoPlaceI();
        turnValue();
        turnOrder();
        turn500Versions();
        turn20000Places();
        turnFullIsLast();
        versionComesToR();
        versionNoPlaceR();
        versionNoSuchVersion();
        versionBothWrong();
        aboutLength();
        aboutParent();
        aboutMadeFromIt();
        aboutFork();
        aboutAncestors();
        aboutNoSuchVersion();
        aboutAnotherWhat();
        commonTheLatest();
        commonTheLongestWay();
        commonNotThere();
        versionsCount();
        versionsMade();
        Check.end();
    }

    /** Promise 1: "Version 0 alone, at place 0". */
    private static void newObjectVersion0Alone() {
        Run x = new Run("1, version 0 alone").due("versions false", 1).due("versions true", 0);
        x.due("row 0 0", 0).due("row 0 1", 0).due("row 0 2", 0).due("about 0 2", 0).refused("about 1 0", BEYOND);
        for (int p = 1; p < 12; p++) {
            x.refused("row " + p + " 0", NOTHING);
        }
    }

    /** Promise 1: "no steps". */
    private static void newObjectNoSteps() {
        Run y = new Run("1, no steps");
        for (int i = 0; i < 10; i++) {
            y.refused("step " + i, NONE);
        }
    }

    /** Promises 1 and 31: no act has answered a finding yet. */
    private static void newObjectNothingFound() {
        for (int finding = -6; finding <= -1; finding++) {
            new Run("1, nothing found").due("found " + finding, 0);
        }
    }

    /** Promise 2: "A new version, the row at p with a value and weight behind, comes to place r: its number." */
    private static void pushComesToR() {
        Edges.comesTo("2, comes to r", "push 0 9 9 R", 7, 0, 4);
        Run x = Edges.shelf("2, p keeps its row").due("push 0 9 -9 3", 7).due("row 0 2", 3).due("row 0 1", 3);
        x.due("row 3 2", 7).due("at 3 2", 4).due("at 3 3", 9).due("weight 3 2", 100).due("weight 3 3", -9);
    }

    /** Promise 2: "or r no place." */
    private static void pushNoPlaceR() {
        Edges.noPlaceR("2, no place r", "push 0 9 9 R");
    }

    /** Promise 2: the first place of an empty row. */
    private static void pushAnEmptyRow() {
        new Run("2, an empty row").due("push 0 9 9 0", 1).due("row 0 1", 1).due("at 0 0", 9);
    }

    /** Promise 2: "Place p." */
    private static void pushPlaceP() {
        Edges.place("2, place p", "push P 9 9 3", 7, 7);
    }

    /** Promise 2: "KIND: it is no GROWN row." */
    private static void pushKind() {
        Edges.grownAlone("2, kind", "push P 9 9 3", 7);
    }

    /** Promise 2: "BEYOND: value isn't 0 .. 1023". */
    private static void pushValue() {
        for (String value : new String[] {"MIN", "-1", "1024", "MAX"}) {
            Edges.shelf("2, value").refused("push 0 " + value + " 9 3", BEYOND);
        }
        Edges.shelf("2, value 0").due("push 0 0 9 3", 7).due("at 3 3", 0);
        Edges.shelf("2, value 1023").due("push 0 1023 9 3", 7).due("at 3 3", 1023);
    }

    /** Promise 2: the order, with all that comes later wrong as well. */
    private static void pushOrder() {
        Edges.shelf("2, order").refused("push 12 -1 9 12", BEYOND).refused("push 3 -1 9 12", NOTHING)
            .refused("push 1 -1 9 12", KIND).refused("push 0 -1 9 12", BEYOND);
    }

    /** Promise 2: "FULL: it has 400 places". */
    private static void push400Places() {
        Run x = Edges.rowOf400("2, 400 places").due("cut 0 399 1", 11).due("push 1 9 9 1", 12).due("row 1 1", 400);
        x.refused("push 1 9 9 1", FULL).refused("push 0 9 9 1", FULL).due("cut 1 0 1", 13).due("push 1 9 9 1", 14);
    }

    /** Promise 2: "there are 500 versions". */
    private static void push500Versions() {
        Edges.versions("2, 500 versions", 499).due("push 0 9 9 0", 499).due("versions false", 500)
            .refused("push 0 9 9 0", FULL);
    }

    /** Promise 2: "or 20000 PLACES were MADE". */
    private static void push20000Places() {
        Edges.made("2, 20000 places", 19999).due("push 1 9 9 1", 60).refused("push 1 9 9 1", FULL);
    }

    /** Promise 2: FULL is asked last. */
    private static void pushFullIsLast() {
        Edges.rowOf400("2, full is last").make("seal 0 1 true").refused("push 12 9 9 0", BEYOND)
            .refused("push 2 9 9 0", NOTHING).refused("push 1 9 9 0", KIND).refused("push 0 1024 9 0", BEYOND)
            .refused("push 0 -1 9 0", BEYOND).refused("push 0 9 9 12", BEYOND).refused("push 0 9 9 -1", BEYOND);
        Edges.versions("2, full is last", 500).refused("push 0 1024 9 12", BEYOND);
        Edges.made("2, full is last", 20000).refused("push 1 1024 9 0", BEYOND).refused("push 1 9 9 12", BEYOND);
    }

    /** Promise 3: "the first n places of the row at p, comes to r: its number." */
    private static void cutComesToR() {
        Edges.comesTo("3, comes to r", "cut 0 2 R", 7, 0, 2);
        Edges.shelf("3, the first n").due("cut 0 2 3", 7).due("at 3 0", 4).due("at 3 1", 200).due("weight 3 1", 10)
            .refused("at 3 2", BEYOND).due("row 0 1", 3);
    }

    /** Promise 3: "or r is no place." */
    private static void cutNoPlaceR() {
        Edges.noPlaceR("3, no place r", "cut 0 2 R");
    }

    /** Promise 3: "Place p." */
    private static void cutPlaceP() {
        Edges.place("3, place p", "cut P 1 3", 7, 7);
    }

    /** Promise 3: "KIND." */
    private static void cutKind() {
        Edges.grownAlone("3, kind", "cut P 1 3", 7);
    }

    /** Promise 3: "SIZE: n is below 0." */
    private static void cutSize() {
        Edges.shelf("3, size").refused("cut 0 -1 3", SIZE).refused("cut 0 MIN 3", SIZE).due("cut 0 0 3", 7)
            .due("row 3 1", 0);
    }

    /** Promise 3: "BEYOND: the row has less". */
    private static void cutLess() {
        Edges.shelf("3, less").refused("cut 0 4 3", BEYOND).refused("cut 0 MAX 3", BEYOND).due("cut 0 3 3", 7)
            .due("first 0 3", NONE);
    }

    /** Promise 3: an empty row has none, and 1 is more. */
    private static void cutAnEmptyRow() {
        new Run("3, an empty row").refused("cut 0 1 0", BEYOND).refused("cut 0 -1 0", SIZE).due("cut 0 0 0", 1)
            .due("row 0 2", 1);
    }

    /** Promise 3: a row of 400 places, whole and but for one. */
    private static void cut400Places() {
        Edges.rowOf400("3, 400 places").due("cut 0 400 1", 11).due("cut 0 399 2", 12).due("row 1 1", 400)
            .due("row 2 1", 399).refused("cut 0 401 1", BEYOND);
    }

    /** Promise 3: the order, with all that comes later wrong as well. */
    private static void cutOrder() {
        Edges.shelf("3, order").refused("cut 12 -1 12", BEYOND).refused("cut 3 -1 12", NOTHING)
            .refused("cut 1 -1 12", KIND).refused("cut 0 -1 12", SIZE).refused("cut 0 4 12", BEYOND);
    }

    /** Promise 3: "FULL: there are 500 versions." */
    private static void cut500Versions() {
        Edges.versions("3, 500 versions", 499).due("cut 0 0 2", 499).due("versions false", 500)
            .refused("cut 0 0 2", FULL);
    }

    /** Promise 3: FULL is asked last. */
    private static void cutFullIsLast() {
        Edges.versions("3, full is last", 500).refused("cut 0 -1 0", SIZE).refused("cut 0 2 0", BEYOND)
            .refused("cut 0 1 12", BEYOND);
    }

    /** Promise 3: it makes no places, so that 20000 of them don't refuse it. */
    private static void cut20000Places() {
        Edges.made("3, 20000 places", 20000).due("cut 0 400 3", 60).due("versions true", 20000);
    }

    /** Promise 4: "the row at p with span a, b of the row at q behind, comes to r: its number." */
    private static void joinComesToR() {
        Edges.comesTo("4, comes to r", "join 0 11 1 3 R", 7, 0, 5);
        Run x = Edges.shelf("4, the span behind").due("join 0 11 1 3 3", 7).due("at 3 2", 4).due("at 3 3", 8);
        x.due("at 3 4", 1023).due("weight 3 2", 100).due("weight 3 3", 20).due("weight 3 4", 200).due("row 0 1", 3);
    }

    /** Promise 4: "BEYOND: r is no place." */
    private static void joinNoPlaceR() {
        Edges.noPlaceR("4, no place r", "join 0 11 1 3 R");
    }

    /** Promise 4: q may be p, and r may be either. */
    private static void joinWithItself() {
        Edges.shelf("4, with itself").due("join 0 0 0 3 0", 7).due("row 0 1", 6).due("at 0 4", 200).due("about 7 1", 3);
        Edges.shelf("4, to q").due("join 0 11 0 3 11", 7).due("row 11 1", 6).due("at 11 0", 4).due("at 11 5", 1023);
    }

    /** Promise 4: "Place p." */
    private static void joinPlaceP() {
        Edges.place("4, place p", "join P 0 0 1 3", 7, 7);
    }

    /** Promise 4: "KIND: it is no GROWN row." */
    private static void joinKind() {
        Edges.grownAlone("4, kind", "join P 0 0 1 3", 7);
    }

    /** Promise 4: "Place q." */
    private static void joinPlaceQ() {
        Edges.place("4, place q", "join 0 P 0 1 3", 7, 7);
    }

    /** Promise 4: "(q may be of any kind.)" */
    private static void joinQOfAnyKind() {
        for (int q = 0; q < 3; q++) {
            Edges.shelf("4, q of any kind").due("join 11 " + q + " 1 3 3", 7).due("at 3 3", 200).due("at 3 4", 4)
                .due("weight 3 3", 10).due("weight 3 4", 100).due("row 3 0", 0);
        }
    }

    /** Promise 4: the order, with all that comes later wrong as well. */
    private static void joinOrder() {
        Edges.shelf("4, order").refused("join 12 3 1 0 12", BEYOND).refused("join 3 12 1 0 12", NOTHING)
            .refused("join 1 12 1 0 12", KIND).refused("join 0 12 1 0 12", BEYOND).refused("join 0 3 1 0 12", NOTHING)
            .refused("join 0 1 0 -1 12", SIZE).refused("join 0 1 0 4 12", BEYOND);
    }

    /** Promise 4: "Span of q": SIZE. */
    private static void joinSpanOfQSize() {
        Edges.spanSize("4, span of q, size", "join 0 P A B 3");
    }

    /** Promise 4: "Span of q": BEYOND; it is q's length that counts, not p's. */
    private static void joinSpanOfQBeyond() {
        Edges.spanBeyond("4, span of q, beyond", "join 0 P A B 3");
        Edges.shelf("4, q is longer").make("version 0 4").due("join 4 0 0 3 4", 7).due("row 4 1", 3);
        Edges.shelf("4, q is shorter").make("version 1 4").refused("join 0 4 0 2 5", BEYOND).due("join 0 4 0 1 5", 7);
    }

    /** Promise 4: a span of no places, and the whole of q. */
    private static void joinSpanOfQTaken() {
        Edges.spanTaken("4, span of q, taken", "join 11 P A B 4", 7, 7);
        Edges.shelf("4, no places").due("join 0 11 3 3 4", 7).due("row 4 1", 3).due("first 4 0", NONE);
        new Run("4, an empty row with itself").due("join 0 0 0 0 0", 1).due("row 0 1", 0).due("row 0 2", 1);
    }

    /** Promise 4: "FULL: it would have more than 400 places". */
    private static void join400Places() {
        Run x = Edges.rowOf400("4, 400 places").make("cut 0 399 1", "cut 0 1 2", "version 0 3");
        x.refused("join 0 2 0 1 4", FULL).refused("join 1 0 0 2 4", FULL).refused("join 2 0 0 400 4", FULL);
        x.refused("join 0 0 0 400 4", FULL).due("join 0 0 400 400 4", 13).due("join 1 2 0 1 4", 14).due("row 4 1", 400);
        x.due("join 2 0 0 399 4", 15).due("row 4 1", 400).due("join 3 0 0 400 4", 16).due("row 4 1", 400);
    }

    /** Promise 4: "there are 500 versions". */
    private static void join500Versions() {
        Edges.versions("4, 500 versions", 499).due("join 0 1 0 1 0", 499).due("versions false", 500)
            .refused("join 0 1 0 1 0", FULL);
        Edges.versions("4, 500 versions, no places", 500).refused("join 0 1 0 0 0", FULL);
    }

    /** Promise 4: "or more than 20000 PLACES would be MADE". */
    private static void join20000Places() {
        Edges.made("4, 20000 places", 19601).refused("join 1 0 0 400 3", FULL).due("join 1 0 0 399 3", 60)
            .due("versions true", 20000).refused("join 1 0 0 1 3", FULL).due("join 1 0 5 5 3", 61);
        Edges.made("4, 20000 places", 19600).due("join 1 0 0 400 3", 60).due("versions true", 20000);
    }

    /** Promise 4: FULL is asked last. */
    private static void joinFullIsLast() {
        Edges.rowOf400("4, full is last").refused("join 0 0 0 400 12", BEYOND).refused("join 0 0 0 401 1", BEYOND)
            .refused("join 0 0 400 0 1", SIZE).refused("join 0 1 0 400 1", NOTHING);
        Edges.versions("4, full is last", 500).refused("join 0 1 0 1 12", BEYOND);
        Edges.made("4, full is last", 20000).refused("join 1 0 0 1 12", BEYOND);
    }

    /** Promise 5: "the row at p with another value and weight at its place i, comes to p: its number." */
    private static void turnComesToP() {
        Run x = Edges.shelf("5, comes to p").make("put 0 3").due("turn 0 1 9 -9", 7).due("row 0 2", 7)
            .due("row 0 1", 3);
        x.due("at 0 0", 4).due("at 0 1", 9).due("at 0 2", 4).due("weight 0 0", 1).due("weight 0 1", -9);
        x.due("weight 0 2", 100).due("at 3 1", 200).due("at 1 1", 200).due("row 3 2", 3);
    }

    /** Promise 5: the places behind i are the row's own, whatever row was looked at last. */
    private static void turnPlacesBehind() {
        Run z = Edges.shelf("5, the places behind").due("at 11 0", 7).due("turn 0 0 9 9", 7).due("at 0 1", 200);
        z.due("weight 0 1", 10).due("at 0 2", 4).due("at 11 0", 7).due("turn 0 1 8 8", 8).due("at 0 0", 9);
        z.due("at 0 1", 8).due("at 0 2", 4).due("weight 0 2", 100);
    }

    /** Promise 5: a new version even if value and weight are the old ones. */
    private static void turnTheSameAgain() {
        Edges.shelf("5, the same again").due("turn 0 1 200 10", 7).due("first 0 1", NONE).due("row 0 2", 7);
    }

    /** Promise 5: "Place p." */
    private static void turnPlaceP() {
        Edges.place("5, place p", "turn P 0 9 9", 7, 7);
    }

    /** Promise 5: "KIND: it is no GROWN row." */
    private static void turnKind() {
        Edges.grownAlone("5, kind", "turn P 0 9 9", 7);
    }

    /** Promise 5: "BEYOND: it has no place i". */
    private static void turnNoPlaceI() {
        for (String i : new String[] {"MIN", "-1", "3", "MAX"}) {
            Edges.shelf("5, no place i").refused("turn 0 " + i + " 9 9", BEYOND);
        }
        Edges.shelf("5, the first place").due("turn 0 0 9 9", 7).due("at 0 0", 9).due("at 0 2", 4);
        Edges.shelf("5, the last place").due("turn 0 2 9 9", 7).due("at 0 2", 9).due("at 0 0", 4);
        new Run("5, an empty row").refused("turn 0 0 9 9", BEYOND);
        Edges.rowOf400("5, 400 places").due("turn 0 399 9 9", 11).due("at 0 399", 9).refused("turn 0 400 9 9", BEYOND);
    }

    /** Promise 5: "or value isn't 0 .. 1023". */
    private static void turnValue() {
        for (String value : new String[] {"MIN", "-1", "1024", "MAX"}) {
            Edges.shelf("5, value").refused("turn 0 1 " + value + " 9", BEYOND);
        }
        Edges.shelf("5, value 0").due("turn 0 1 0 MIN", 7).due("at 0 1", 0).due("weight 0 1", Integer.MIN_VALUE);
        Edges.shelf("5, value 1023").due("turn 0 1 1023 MAX", 7).due("at 0 1", 1023)
            .due("weight 0 1", Integer.MAX_VALUE);
    }

    /** Promise 5: the order, with all that comes later wrong as well. */
    private static void turnOrder() {
        Edges.shelf("5, order").refused("turn 12 3 1024 0", BEYOND).refused("turn 3 3 1024 0", NOTHING)
            .refused("turn 1 3 1024 0", KIND).refused("turn 0 3 1024 0", BEYOND);
    }

    /** Promise 5: "FULL: there are 500 versions". */
    private static void turn500Versions() {
        Edges.versions("5, 500 versions", 499).due("turn 0 0 9 9", 499).due("versions false", 500)
            .refused("turn 0 0 9 9", FULL);
    }

    /** Promise 5: "or more than 20000 PLACES would be MADE". */
    private static void turn20000Places() {
        Edges.made("5, 20000 places", 19999).refused("turn 0 398 9 9", FULL).due("turn 0 399 9 9", 60)
            .due("versions true", 20000).refused("turn 0 399 9 9", FULL);
        Edges.made("5, 20000 places", 19601).refused("turn 0 0 9 9", FULL).due("turn 0 1 9 9", 60)
            .due("versions true", 20000);
        Edges.made("5, 20000 places", 19600).due("turn 0 0 9 9", 60).due("versions true", 20000);
    }

    /** Promise 5: FULL is asked last. */
    private static void turnFullIsLast() {
        Edges.versions("5, full is last", 500).refused("turn 0 1 9 9", BEYOND).refused("turn 0 0 1024 9", BEYOND);
        Edges.made("5, full is last", 20000).refused("turn 0 400 9 9", BEYOND).refused("turn 0 0 -1 9", BEYOND);
    }

    /** Promise 6: "Version v comes to place r: its length." */
    private static void versionComesToR() {
        Edges.comesTo("6, comes to r", "version 2 R", 2, 0, 2);
        Edges.shelf("6, what is there").due("version 2 1", 2).due("row 1 0", 0).due("row 1 2", 2).due("at 1 1", 200);
        Edges.shelf("6, version 0").due("version 0 11", 0).due("row 11 2", 0);
        Edges.rowOf400("6, 400 places").due("version 10 1", 400).due("row 1 1", 400);
    }

    /** Promise 6: "or r is no place." */
    private static void versionNoPlaceR() {
        Edges.noPlaceR("6, no place r", "version 2 R");
    }

    /** Promise 6: "BEYOND: there is no such version". */
    private static void versionNoSuchVersion() {
        for (String v : new String[] {"MIN", "-1", "7", "500", "MAX"}) {
            Edges.shelf("6, no such version").refused("version " + v + " 0", BEYOND);
        }
        Edges.shelf("6, the last version").due("version 6 0", 3).due("row 0 2", 6);
        new Run("6, of a new object").refused("version 1 0", BEYOND).due("version 0 0", 0);
        Edges.versions("6, 500 versions", 500).refused("version 500 2", BEYOND).due("version 499 2", 1)
            .due("row 2 2", 499);
    }

    /** Promise 6: both are wrong, and one finding is counted. */
    private static void versionBothWrong() {
        Edges.shelf("6, both").refused("version 7 12", BEYOND).due("found -1", 1);
    }

    /** Promise 7: "0 its length". */
    private static void aboutLength() {
        Edges.shelf("7, length").due("about 0 0", 0).due("about 3 0", 3);
        Edges.rowOf400("7, length").due("about 10 0", 400);
    }

    /** Promise 7: "1 its parent (NONE of 0)". */
    private static void aboutParent() {
        Edges.shelf("7, parent").refused("about 0 1", NONE).due("about 1 1", 0).due("about 4 1", 0).due("about 6 1", 5);
    }

    /** Promise 7: "2 how many versions were made from it". */
    private static void aboutMadeFromIt() {
        new Run("7, made from it").due("about 0 2", 0).make("push 0 1 1 1").due("about 0 2", 1).due("about 1 2", 0);
        Edges.shelf("7, made from it").due("about 0 2", 2).due("about 6 2", 0).refused("push 11 1024 1 11", BEYOND)
            .due("about 6 2", 0);
        Edges.versions("7, made from it", 500).due("about 1 2", 498).due("about 0 2", 1).due("about 499 2", 0);
    }

    /** Promise 7: "3 whether it is a FORK (1, 0)". */
    private static void aboutFork() {
        Edges.shelf("7, fork").due("about 0 3", 0).due("about 1 3", 0).due("about 4 3", 1).due("about 5 3", 0);
        Edges.versions("7, fork", 500).due("about 2 3", 0).due("about 3 3", 1).due("about 499 3", 1);
    }

    /** Promise 7: "4 how many ancestors it has": itself is one. */
    private static void aboutAncestors() {
        Edges.shelf("7, ancestors").due("about 0 4", 1).due("about 3 4", 4);
        Run chain = new Run("7, ancestors");
        for (int v = 1; v < 500; v++) {
            chain.make("cut 0 0 0");
        }
        chain.due("about 499 4", 500).due("about 499 1", 498);
    }

    /** Promise 7: "BEYOND: there is no such version". */
    private static void aboutNoSuchVersion() {
        for (String v : new String[] {"MIN", "-1", "7", "500", "MAX"}) {
            for (int what = 0; what < 5; what++) {
                Edges.shelf("7, no such version").refused("about " + v + " " + what, BEYOND);
            }
        }
        Edges.versions("7, 500 versions", 500).due("about 499 1", 1).refused("about 500 1", BEYOND);
    }

    /** Promise 7: "or another what." */
    private static void aboutAnotherWhat() {
        for (String what : new String[] {"MIN", "-1", "5", "MAX"}) {
            Edges.shelf("7, another what").refused("about 0 " + what, BEYOND).refused("about 6 " + what, BEYOND)
                .refused("about 7 " + what, BEYOND);
        }
    }

    /** Promise 8: "The latest (greatest) version that is an ancestor of both." */
    private static void commonTheLatest() {
        Run x = Edges.shelf("8, common").due("common 0 0", 0).due("common 6 6", 6).due("common 6 5", 5);
        x.due("common 5 6", 5).due("common 3 6", 0).due("common 6 3", 0).due("common 0 6", 0).due("common 1 3", 1);
        x.make("version 2 3", "push 3 1 1 3", "push 3 1 1 3").due("common 8 3", 2).due("common 3 8", 2)
            .due("common 8 1", 1);
    }

    /** Promise 8: the longest way that two versions can have. */
    private static void commonTheLongestWay() {
        Run chain = new Run("8, the longest way");
        for (int v = 1; v < 499; v++) {
            chain.make("cut 0 0 0");
        }
        chain.make("version 0 0", "cut 0 0 0").due("common 498 499", 0).due("common 499 498", 0);
        chain.due("common 498 497", 497).due("common 498 0", 0).due("common 1 498", 1);
    }

    /** Promise 8: "BEYOND: one of them isn't there." */
    private static void commonNotThere() {
        for (String v : new String[] {"MIN", "-1", "7", "500", "MAX"}) {
            Edges.shelf("8, not there").refused("common " + v + " 0", BEYOND).refused("common 0 " + v, BEYOND)
                .refused("common " + v + " " + v, BEYOND);
        }
        Edges.versions("8, 500 versions", 500).due("common 499 498", 1).refused("common 499 500", BEYOND)
            .refused("common 500 499", BEYOND);
    }

    /** Promise 9: "How many versions there are": version 0 at first, 500 at most. */
    private static void versionsCount() {
        new Run("9, versions").due("versions false", 1).make("cut 0 0 1").due("versions false", 2);
        Edges.versions("9, 500 versions", 500).due("versions false", 500).refused("cut 0 0 0", FULL)
            .due("versions false", 500);
    }

    /** Promise 9: "(made: how many PLACES were MADE)": none at first, 20000 at most. */
    private static void versionsMade() {
        new Run("9, made").due("versions true", 0).make("cut 0 0 1").due("versions true", 0);
        Edges.made("9, 20000 made", 20000).due("versions true", 20000).refused("push 1 9 9 1", FULL)
            .due("versions true", 20000).due("versions false", 60);
    }
}
