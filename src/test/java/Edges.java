/** The rows that the tests of boundary cases stand on, and the cases that many promises share. */
final class Edges {
    static final int BEYOND = -1;
    static final int NOTHING = -2;
    static final int KIND = -3;
    static final int SIZE = -4;
    static final int FULL = -5;
    static final int NONE = -6;

    private static final String[] NO_PLACES = {"MIN", "-1", "12", "MAX"};

    private Edges() {
    }

    /**
     * Place 0: version 3, values 4, 200, 4, weights 1, 10, 100. Places 1 and 2: the same, SEALED and SHORT.
     * Place 11: version 6, values 7, 8, 1023, weights 2, 20, 200. Nothing at 3 to 10.
     */
    static Run shelf(String name) {
        return new Run(name).make("push 0 4 1 0", "push 0 200 10 0", "push 0 4 100 0", "seal 0 1 false",
            "seal 0 2 true", "version 0 11", "push 11 7 2 11", "push 11 8 20 11", "push 11 1023 200 11");
    }

    /** Place 0: version 1, value 5, weight 2. Place 1: the last version, the same row. This many versions. */
    static Run versions(String name, int count) {
        Run x = new Run(name).make("push 0 5 2 0", "cut 0 1 1");
        for (int v = 3; v < count; v++) {
            x.make("cut 0 1 1");
        }
        return x;
    }

    /** Place 0: version 10, 400 places of value 5 and weight 2, with 400 places made. */
    static Run rowOf400(String name) {
        Run x = new Run(name).make("push 0 5 2 0");
        for (int length = 1; length <= 128; length *= 2) {
            x.make("join 0 0 0 " + length + " 0");
        }
        return x.make("join 0 0 0 144 0");
    }

    /**
     * So many places made, 19600 or more, with 60 versions. Place 0: as rowOf400(). Place 1: version 0.
     * Place 2: version 59, with the places above 19600.
     */
    static Run made(String name, int count) {
        Run x = rowOf400(name).make("version 0 1");
        for (int i = 0; i < 48; i++) {
            x.make("join 1 0 0 400 2");
        }
        return x.make("join 1 0 0 " + (count - 19600) + " 2").due("versions true", count);
    }

    /** "Place p" of a call that has P for it: 0 and 11 are places, -1 and 12 are none, 3 and 10 hold nothing. */
    static void place(String name, String call, long at0, long at11, String... ahead) {
        for (String p : NO_PLACES) {
            shelf(name).make(ahead).refused(fill(call, "P", p), BEYOND);
        }
        shelf(name).make(ahead).refused(fill(call, "P", "3"), NOTHING);
        shelf(name).make(ahead).refused(fill(call, "P", "10"), NOTHING);
        shelf(name).make(ahead).make("take 0").refused(fill(call, "P", "0"), NOTHING);
        taken(shelf(name).make(ahead), fill(call, "P", "0"), at0);
        taken(shelf(name).make(ahead), fill(call, "P", "11"), at11);
    }

    /** A call that has R for its place r: what it makes comes to 0, to 11, and to 3, where nothing was. */
    static void comesTo(String name, String call, long answer, int kind, int length) {
        for (String r : new String[] {"0", "3", "11"}) {
            Run x = shelf(name).due(fill(call, "R", r), answer);
            x.due("row " + r + " 0", kind).due("row " + r + " 1", length);
        }
    }

    /** "r is no place" of a call that has R for it, but is right in all else. */
    static void noPlaceR(String name, String call) {
        for (String r : NO_PLACES) {
            shelf(name).refused(fill(call, "R", r), BEYOND);
        }
    }

    /** "KIND: it is no GROWN row" of a call that has P for its row. */
    static void grownAlone(String name, String call, long answer) {
        shelf(name).refused(fill(call, "P", "1"), KIND);
        shelf(name).refused(fill(call, "P", "2"), KIND);
        shelf(name).due(fill(call, "P", "0"), answer);
    }

    /** A call that is right but may still find NONE, which then must be counted. */
    static void taken(Run x, String call, long answer) {
        if (answer < 0) {
            x.refused(call, (int) answer);
        } else {
            x.due(call, answer);
        }
    }

    private static String fill(String call, String word, String by) {
        return call.replaceAll("\\b" + word + "\\b", by);
    }

    private static String with(String call, int p, String a, String b) {
        return fill(fill(fill(call, "P", "" + p), "A", a), "B", b);
    }

    /** "SIZE if b is below a", for a row of three places of each kind. */
    static void spanSize(String name, String call) {
        String[][] spans = {{"1", "0"}, {"3", "2"}, {"4", "3"}, {"0", "-1"}, {"-1", "-2"}, {"MAX", "MIN"},
            {"MAX", "0"}, {"0", "MIN"}};
        for (int p = 0; p < 3; p++) {
            for (String[] s : spans) {
                shelf(name).refused(with(call, p, s[0], s[1]), SIZE);
            }
        }
    }

    /** "BEYOND if a is below 0, or b above its length", for a row of three places of each kind. */
    static void spanBeyond(String name, String call) {
        String[][] spans = {{"-1", "-1"}, {"-1", "0"}, {"-1", "3"}, {"0", "4"}, {"3", "4"}, {"4", "4"}, {"-1", "4"},
            {"MIN", "MIN"}, {"MIN", "0"}, {"MIN", "MAX"}, {"0", "MAX"}, {"MAX", "MAX"}};
        for (int p = 0; p < 3; p++) {
            for (String[] s : spans) {
                shelf(name).refused(with(call, p, s[0], s[1]), BEYOND);
            }
        }
    }

    /** Spans that are still taken: the whole row, "none, if a is b" at its both ends, and an empty row. */
    static void spanTaken(String name, String call, long ofNone, long ofAll) {
        for (int p = 0; p < 3; p++) {
            taken(shelf(name), with(call, p, "0", "3"), ofAll);
            for (String end : new String[] {"0", "1", "3"}) {
                taken(shelf(name), with(call, p, end, end), ofNone);
            }
        }
        String[] kinds = {"version 0 3", "seal 3 3 false", "seal 3 3 true"};
        for (String kind : kinds) {
            taken(shelf(name).make("version 0 3").make(kind), with(call, 3, "0", "0"), ofNone);
            shelf(name).make("version 0 3").make(kind).refused(with(call, 3, "0", "1"), BEYOND);
            shelf(name).make("version 0 3").make(kind).refused(with(call, 3, "1", "0"), SIZE);
        }
    }

    /** "Span" of a call that has P, A and B: what it answers of no places, and of all three. */
    static void span(String name, String call, long ofNone, long ofAll) {
        spanSize(name + ", size", call);
        spanBeyond(name + ", beyond", call);
        spanTaken(name + ", taken", call, ofNone, ofAll);
    }

    /** "Place p. Span.", in that order, of a call that is wrong in what it asks behind them, too. */
    static void spanOrder(String name, String call) {
        shelf(name).refused(with(call, 12, "1", "0"), BEYOND);
        shelf(name).refused(with(call, 3, "1", "0"), NOTHING);
        shelf(name).refused(with(call, 3, "0", "4"), NOTHING);
        shelf(name).refused(with(call, 0, "0", "-1"), SIZE);
        shelf(name).refused(with(call, 0, "0", "4"), BEYOND);
    }
}
