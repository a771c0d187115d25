/** What every test of the project counts its wrong answers with. */
final class Check {
    private static int wrong = 0;
    private static int asked = 0;

    private Check() {
    }

    static void due(String call, long got, long want) {
        asked++;
        if (got != want) {
            wrong++;
            System.out.println(call + " answered " + got + ", due is " + want);
        }
    }

    static int wrongs() {
        return wrong;
    }

    static void end() {
        if (asked == 0) {
            System.out.println("nothing was asked");
            System.exit(1);
        }
        System.out.println(wrong == 0 ? asked + " answers are as due" : wrong + " of " + asked + " answers are not as due");
        if (wrong != 0) {
            System.exit(1);
        }
    }

    /** A shelf whose place 0 holds a version with these values, of weights 1, 10, 100, 1, 10 and so on. */
    static RankShelf shelfOf(int... values) {
        RankShelf x = new RankShelf();
        int[] weights = {1, 10, 100};
        for (int i = 0; i < values.length; i++) {
            due("push of a test's row", x.push(0, values[i], weights[i % 3], 0), i + 1);
        }
        return x;
    }

    /** Place 0 holds a row of 400 places: value i mod 256, weight i; it is version 400. */
    static RankShelf longShelf() {
        RankShelf x = new RankShelf();
        for (int i = 0; i < 400; i++) {
            due("push of the long row", x.push(0, i % 256, i, 0), i + 1);
        }
        return x;
    }

    /** Place 0 holds a row of 400 places of value 5, weight 2, made by few calls: it is version 11. */
    static RankShelf doubledShelf() {
        RankShelf x = new RankShelf();
        due("push", x.push(0, 5, 2, 0), 1);
        int length = 1;
        int made = 2;
        while (length < 400) {
            int more = Math.min(length, 400 - length);
            due("doubling join", x.join(0, 0, 0, more, 0), made);
            length += more;
            made++;
        }
        return x;
    }
}
