/** The limits that FULL tells of: 400 places, 500 versions, 20000 places made. */
public final class LimitsTest {
    public static void main(String[] args) {
        fourHundredPlaces();
        fiveHundredVersions();
        longestChain();
        twentyThousandMade();
        turnsUpToTheLimit();
        pushUpToTheLimit();
        Check.end();
    }

    private static void fourHundredPlaces() {
        RankShelf x = Check.longShelf();
        Check.due("push beyond 400", x.push(0, 1, 1, 0), -5);
        Check.due("value ahead of full", x.push(0, 1024, 1, 0), -1);
        Check.due("r ahead of full", x.push(0, 1, 1, 12), -1);
        Check.due("join beyond 400", x.join(0, 0, 0, 1, 0), -5);
        Check.due("join's r ahead of full", x.join(0, 0, 0, 1, 12), -1);
        Check.due("join of all", x.join(0, 0, 0, 400, 0), -5);
        Check.due("join of none", x.join(0, 0, 400, 400, 1), 401);
        Check.due("cut to 399", x.cut(0, 399, 1), 402);
        Check.due("join of two", x.join(1, 0, 0, 2, 1), -5);
        Check.due("join of one", x.join(1, 0, 0, 1, 1), 403);
        Check.due("400 long", x.row(1, 1), 400);
        Check.due("turn of the last", x.turn(1, 399, 1023, 5), 404);
        Check.due("its value", x.at(1, 399), 1023);
        Check.due("found full", x.found(-5), 4);
        Check.due("length stays", x.row(0, 1), 400);
    }

    private static void fiveHundredVersions() {
        RankShelf x = new RankShelf();
        Check.due("push", x.push(0, 1, 1, 0), 1);
        for (int v = 2; v < 500; v++) {
            Check.due("cut", x.cut(0, 1, 1), v);
        }
        Check.due("500 versions", x.versions(false), 500);
        Check.due("push", x.push(0, 1, 1, 0), -5);
        Check.due("cut", x.cut(0, 0, 0), -5);
        Check.due("cut's r ahead of full", x.cut(0, 0, 12), -1);
        Check.due("join", x.join(0, 0, 0, 0, 0), -5);
        Check.due("turn", x.turn(0, 0, 1, 1), -5);
        Check.due("turn's place ahead of full", x.turn(0, 1, 1, 1), -1);
        Check.due("made from 1", x.about(1, 2), 498);
        Check.due("nothing changed", x.versions(true), 1);
        Check.due("the last", x.version(499, 2), 1);
        Check.due("no later one", x.version(500, 2), -1);
    }

    private static void longestChain() {
        RankShelf x = new RankShelf();
        for (int v = 1; v < 500; v++) {
            Check.due("chain", v % 100 == 0 ? x.cut(0, 0, 0) : x.push(0, v, v, 0), v);
        }
        Check.due("ancestors", x.about(499, 4), 500);
        Check.due("common", x.common(499, 0), 0);
        Check.due("length", x.row(0, 1), 99);
        Check.due("first value", x.at(0, 0), 401);
        Check.due("last value", x.at(0, 98), 499);
    }

    private static void twentyThousandMade() {
        RankShelf x = Check.doubledShelf();
        x.version(0, 1);
        for (int i = 1; i < 50; i++) {
            x.join(1, 0, 0, 400, 2);
        }
        Check.due("made 20000", x.versions(true), 20000);
        Check.due("the last is whole", x.first(0, 2), -6);
        int before = x.versions(false);
        Check.due("push", x.push(1, 1, 1, 1), -5);
        Check.due("join of one", x.join(1, 0, 0, 1, 1), -5);
        Check.due("turn of the last", x.turn(0, 399, 1, 1), -5);
        Check.due("join of none", x.join(1, 0, 7, 7, 1), before);
        Check.due("cut", x.cut(0, 5, 1), before + 1);
        Check.due("found full", x.found(-5), 3);
    }

    private static void turnsUpToTheLimit() {
        RankShelf x = Check.doubledShelf();
        for (int i = 0; i < 48; i++) {
            x.turn(0, 0, i, i);
        }
        x.turn(0, 1, 77, 77);
        Check.due("made 19999", x.versions(true), 19999);
        Check.due("turn of two", x.turn(0, 398, 1, 1), -5);
        Check.due("join of two", x.join(0, 0, 0, 0, 1) > 0 ? 1 : 0, 1);
        x.cut(0, 10, 1);
        Check.due("two are too many", x.join(1, 0, 0, 2, 1), -5);
        Check.due("turn of one", x.turn(0, 399, 8, 9) > 0 ? 1 : 0, 1);
        Check.due("made 20000", x.versions(true), 20000);
        Check.due("at 0", x.at(0, 0), 47);
        Check.due("at 1", x.at(0, 1), 77);
        Check.due("at 398", x.at(0, 398), 5);
        Check.due("at 399", x.at(0, 399), 8);
        Check.due("weight 399", x.weight(0, 399), 9);
    }

    private static void pushUpToTheLimit() {
        RankShelf x = Check.doubledShelf();
        x.version(0, 1);
        for (int i = 1; i < 49; i++) {
            x.join(1, 0, 0, 400, 2);
        }
        x.join(1, 0, 0, 399, 2);
        Check.due("made 19999", x.versions(true), 19999);
        Check.due("the last push", x.push(2, 9, 9, 3) > 0 ? 1 : 0, 1);
        Check.due("made 20000", x.versions(true), 20000);
        Check.due("one too many", x.push(1, 9, 9, 3), -5);
        Check.due("its value", x.at(3, 399), 9);
    }
}
