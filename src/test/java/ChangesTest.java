/**
 * What an act that answers no finding changes, and nothing else: "Nothing is promised beyond the answers
 * and state changes described above". Each is made on one of two twins, and both are asked all.
 */
public final class ChangesTest {
    public static void main(String[] args) {
        newVersionsAtR();
        newVersionAtP();
        whatComesToR();
        waysChangeTheStepsAlone();
        askingOfVersions();
        askingOfTheShelf();
        askingOfSpans();
        askingInAnyOrder();
        Check.end();
    }

    /** The rows of Edges.shelf(), behind a way of eight steps, so that changed steps would show. */
    private static Run shelf(String name) {
        return Edges.shelf(name).make("kth 2 0 3 2");
    }

    private static String[] place(int r, String... more) {
        String[] all = new String[more.length + 3];
        all[0] = "row " + r;
        all[1] = "at " + r;
        all[2] = "weight " + r;
        System.arraycopy(more, 0, all, 3, more.length);
        return all;
    }

    /** Promises 2, 3 and 4: the new version comes to r, its parent has one more made from it, all else stays. */
    private static void newVersionsAtR() {
        for (int r : new int[] {0, 1, 2, 3, 11}) {
            String[] made = place(r, "versions", "about 3 2");
            shelf("2, changes").changes("push 0 9 9 " + r, 7, made);
            shelf("3, changes").changes("cut 0 2 " + r, 7, place(r, "versions 0", "about 3 2"));
            shelf("4, changes").changes("join 0 11 1 3 " + r, 7, made);
            shelf("4, changes, of a sealed row").changes("join 0 1 1 3 " + r, 7, made);
            shelf("4, changes, of no places").changes("join 0 11 1 1 " + r, 7, place(r, "versions 0", "about 3 2"));
        }
    }

    /** Promise 5: the new version comes to p alone, though its parent stands elsewhere, too. */
    private static void newVersionAtP() {
        shelf("5, changes").changes("turn 0 1 9 9", 7, place(0, "versions", "about 3 2"));
        shelf("5, changes, elsewhere").make("put 0 5").changes("turn 5 0 9 9", 7, place(5, "versions", "about 3 2"));
    }

    /** Promises 6, 10, 11 and 12: place r alone is another, no version is made. */
    private static void whatComesToR() {
        for (int r : new int[] {0, 1, 2, 3, 11}) {
            shelf("6, changes").changes("version 2 " + r, 2, place(r));
            shelf("10, changes").changes("seal 0 " + r + " false", 3, place(r));
            shelf("10, changes, short").changes("seal 0 " + r + " true", 3, place(r));
            shelf("11, changes").changes("put 0 " + r, 0, place(r));
            shelf("11, changes, sealed").changes("put 1 " + r, 1, place(r));
            shelf("11, changes, short").changes("put 2 " + r, 2, place(r));
            shelf("12, changes").changes("take " + r, 0, place(r));
        }
        shelf("11, to itself").changes("put 0 0", 0).changes("put 1 1", 1).changes("put 2 2", 2);
        shelf("12, nothing to take").changes("take 3", 0);
    }

    /** Promises 18 and 23 with term 3: a way that found a value changes the steps, and nothing else. */
    private static void waysChangeTheStepsAlone() {
        for (int p = 0; p < 3; p++) {
            shelf("18, changes").changes("kth " + p + " 0 3 0", 4, "step");
            shelf("23, changes").changes("median " + p + " 1 2", 200, "step");
        }
        // The same way once more has the same steps.
        shelf("18, the same way").changes("kth 2 0 3 2", 200);
    }

    /** Promises 7, 8 and 9 change nothing. */
    private static void askingOfVersions() {
        shelf("7 to 9, changes").changes("about 6 0", 3).changes("about 6 1", 5).changes("about 0 2", 2)
            .changes("about 4 3", 1).changes("about 6 4", 4).changes("common 3 6", 0).changes("common 2 3", 2)
            .changes("versions false", 7).changes("versions true", 6);
    }

    /** Promises 13 to 17 change nothing: a plane's order is not the row's. */
    private static void askingOfTheShelf() {
        shelf("13 to 15, changes").changes("row 0 0", 0).changes("row 0 1", 3).changes("row 0 2", 3)
            .changes("at 11 2", 1023).changes("weight 11 2", 200).changes("at 2 1", 200).changes("weight 1 1", 10);
        for (int plane = 0; plane < 8; plane++) {
            shelf("16 and 17, changes").changes("bit 1 " + plane + " 0", plane == 7 ? 1 : 0)
                .changes("ones 2 " + plane + " 0", 0).changes("ones 1 " + plane + " 0", 0);
        }
    }

    /** Promises 19 to 22, 24 to 31 change nothing, the steps neither. */
    private static void askingOfSpans() {
        shelf("19 to 22, changes").changes("rank 0 0 3 9", 2).changes("between 0 0 3 4 9", 2)
            .changes("next 0 0 3 5", 200).changes("prior 0 0 3 199", 4);
        shelf("24 to 27, changes").changes("half 0 0 3", 4).changes("often 0 0 3 1", 200)
            .changes("distinct 0 0 3", 2).changes("sum 0 0 3 9", 101);
        shelf("28 to 31, changes").changes("differ 0 0 3 11 0", 4).changes("first 0 11", 0).changes("step 0", 2)
            .changes("found -1", 0);
    }

    /** A call answers the same whatever was asked ahead of it: of another row, a plane, or a longer span. */
    private static void askingInAnyOrder() {
        String[][] questions = {{"at 0 1", "200"}, {"at 11 1", "8"}, {"weight 1 2", "100"}, {"bit 1 9 2", "0"},
            {"ones 2 5 3", "2"}, {"kth 11 0 3 2", "1023"}, {"rank 0 0 2 5", "1"}, {"half 0 0 3", "4"},
            {"often 11 0 3 1", "8"}, {"distinct 0 0 3", "2"}, {"sum 11 1 3 1024", "220"}, {"differ 0 0 3 11 0", "4"},
            {"differ 11 1 3 0 0", "4"}, {"first 0 11", "0"}, {"median 2 0 3", "4"}, {"join 0 11 0 3 5", ""}};
        for (String[] ahead : questions) {
            for (String[] then : questions) {
                Run x = Edges.shelf("asked behind " + ahead[0]).make(ahead[0]);
                x.due(then[0], then[1].isEmpty() ? (ahead[1].isEmpty() ? 8 : 7) : Long.parseLong(then[1]));
            }
        }
    }
}
