/** Promises 1 to 9: a new object, and how versions are made and come from one another. */
public final class VersionsTest {
    private static final int MIN = Integer.MIN_VALUE;
    private static final int MAX = Integer.MAX_VALUE;

    public static void main(String[] args) {
        promise1NewObject();
        promise2Push();
        promise2PushOrder();
        promise3Cut();
        promise4Join();
        promise4JoinOfAnyKind();
        promise4JoinOrder();
        promise5Turn();
        promise5TurnOrder();
        promise6Version();
        promise7About();
        promise8Common();
        promise9Versions();
        Check.end();
    }

    private static void promise1NewObject() {
        RankShelf x = new RankShelf();
        Check.due("1 versions", x.versions(false), 1);
        Check.due("1 made", x.versions(true), 0);
        Check.due("1 kind of place 0", x.row(0, 0), 0);
        Check.due("1 length of place 0", x.row(0, 1), 0);
        Check.due("1 version at place 0", x.row(0, 2), 0);
        for (int finding = -6; finding <= -1; finding++) {
            Check.due("1 found at first", x.found(finding), 0);
        }
        for (int p = 1; p < 12; p++) {
            Check.due("1 nothing at the others", x.row(p, 0), -2);
        }
        Check.due("1 no steps", x.step(0), -6);
        Check.due("1 objects share nothing", new RankShelf().found(-2), 0);
    }

    private static void promise2Push() {
        RankShelf x = new RankShelf();
        Check.due("2 value 0", x.push(0, 0, MIN, 11), 1);
        Check.due("2 p keeps its row", x.row(0, 1), 0);
        Check.due("2 length", x.row(11, 1), 1);
        Check.due("2 kind", x.row(11, 0), 0);
        Check.due("2 version", x.row(11, 2), 1);
        Check.due("2 value 1023", x.push(11, 1023, MAX, 11), 2);
        Check.due("2 at 0", x.at(11, 0), 0);
        Check.due("2 at 1", x.at(11, 1), 1023);
        Check.due("2 weight 0", x.weight(11, 0), MIN);
        Check.due("2 weight 1", x.weight(11, 1), MAX);
        Check.due("2 made", x.versions(true), 2);
        Check.due("2 onto a sealed place", x.seal(0, 5, false), 0);
        Check.due("2 it becomes grown", x.push(0, 7, 7, 5), 3);
        Check.due("2 grown", x.row(5, 0), 0);
    }

    private static void promise2PushOrder() {
        RankShelf x = Check.shelfOf(1);
        x.seal(0, 1, false);
        x.seal(0, 2, true);
        Check.due("2 p below", x.push(-1, 0, 0, 0), -1);
        Check.due("2 p least", x.push(MIN, 0, 0, 0), -1);
        Check.due("2 p above", x.push(12, 0, 0, 0), -1);
        Check.due("2 nothing ahead of value", x.push(3, 5000, 0, 99), -2);
        Check.due("2 kind ahead of value", x.push(1, 5000, 0, 99), -3);
        Check.due("2 kind of short", x.push(2, 0, 0, 0), -3);
        Check.due("2 value below", x.push(0, -1, 0, 0), -1);
        Check.due("2 value above", x.push(0, 1024, 0, 0), -1);
        Check.due("2 r below", x.push(0, 0, 0, -1), -1);
        Check.due("2 r above", x.push(0, 0, 0, 12), -1);
        Check.due("2 nothing has changed", x.versions(false), 2);
        Check.due("2 no place was made", x.versions(true), 1);
        Check.due("2 no child", x.about(1, 2), 0);
        Check.due("2 found beyond", x.found(-1), 7);
        Check.due("2 found nothing", x.found(-2), 1);
        Check.due("2 found kind", x.found(-3), 2);
    }

    private static void promise3Cut() {
        RankShelf x = Check.shelfOf(4, 5, 6);
        Check.due("3 two", x.cut(0, 2, 1), 4);
        Check.due("3 length", x.row(1, 1), 2);
        Check.due("3 at 1", x.at(1, 1), 5);
        Check.due("3 weight 1", x.weight(1, 1), 10);
        Check.due("3 at 2", x.at(1, 2), -1);
        Check.due("3 all", x.cut(0, 3, 2), 5);
        Check.due("3 the same", x.first(0, 2), -6);
        Check.due("3 none", x.cut(0, 0, 0), 6);
        Check.due("3 empty", x.row(0, 1), 0);
        Check.due("3 makes no places", x.versions(true), 3);
        Check.due("3 parent", x.about(6, 1), 3);
        Check.due("3 grows on", x.push(1, 9, 9, 1), 7);
        Check.due("3 behind the cut", x.at(1, 2), 9);
        Check.due("3 the parent keeps its own", x.at(2, 2), 6);
        x.seal(2, 3, false);
        Check.due("3 p beyond", x.cut(12, -1, 99), -1);
        Check.due("3 nothing", x.cut(9, -1, 99), -2);
        Check.due("3 kind ahead of size", x.cut(3, -1, 99), -3);
        Check.due("3 size ahead of beyond", x.cut(2, -1, 99), -4);
        Check.due("3 size of the least", x.cut(2, MIN, 0), -4);
        Check.due("3 less", x.cut(2, 4, 0), -1);
        Check.due("3 r", x.cut(2, 1, 12), -1);
        Check.due("3 r below", x.cut(2, 1, -1), -1);
        Check.due("3 none was made", x.versions(false), 8);
    }

    private static void promise4Join() {
        RankShelf x = Check.shelfOf(4, 5, 6);
        x.version(2, 1);
        Check.due("4 a span", x.join(1, 0, 1, 3, 2), 4);
        Check.due("4 length", x.row(2, 1), 4);
        Check.due("4 at 1", x.at(2, 1), 5);
        Check.due("4 at 2", x.at(2, 2), 5);
        Check.due("4 at 3", x.at(2, 3), 6);
        Check.due("4 weight 2", x.weight(2, 2), 10);
        Check.due("4 weight 3", x.weight(2, 3), 100);
        Check.due("4 made", x.versions(true), 5);
        Check.due("4 parent is p's", x.about(4, 1), 2);
        Check.due("4 nothing comes from q's", x.about(3, 2), 0);
        Check.due("4 no places", x.join(2, 0, 3, 3, 2), 5);
        Check.due("4 as long as it was", x.row(2, 1), 4);
        Check.due("4 none made", x.versions(true), 5);
        Check.due("4 with itself", x.join(0, 0, 0, 3, 0), 6);
        Check.due("4 twice", x.at(0, 5), 6);
    }

    private static void promise4JoinOfAnyKind() {
        RankShelf x = Check.shelfOf(4, 5, 6);
        x.seal(0, 1, false);
        x.seal(0, 2, true);
        Check.due("4 of a sealed one", x.join(0, 1, 0, 1, 0), 4);
        Check.due("4 of a short one", x.join(0, 2, 2, 3, 0), 5);
        Check.due("4 at 3", x.at(0, 3), 4);
        Check.due("4 at 4", x.at(0, 4), 6);
        Check.due("4 weight 4", x.weight(0, 4), 100);
    }

    private static void promise4JoinOrder() {
        RankShelf x = Check.shelfOf(4, 5, 6);
        x.seal(0, 1, false);
        Check.due("4 p beyond", x.join(-1, 9, 2, 1, 99), -1);
        Check.due("4 p nothing", x.join(9, 12, 2, 1, 99), -2);
        Check.due("4 kind ahead of q", x.join(1, 12, 2, 1, 99), -3);
        Check.due("4 q beyond", x.join(0, 12, 2, 1, 99), -1);
        Check.due("4 q nothing ahead of the span", x.join(0, 9, 2, 1, 99), -2);
        Check.due("4 size ahead of beyond", x.join(0, 1, -1, -2, 99), -4);
        Check.due("4 size far out", x.join(0, 1, MAX, MIN, 0), -4);
        Check.due("4 a below 0", x.join(0, 1, -1, 2, 0), -1);
        Check.due("4 b above", x.join(0, 1, 0, 4, 0), -1);
        Check.due("4 as wide as can be", x.join(0, 1, MIN, MAX, 0), -1);
        Check.due("4 r", x.join(0, 1, 0, 1, 12), -1);
        Check.due("4 r below", x.join(0, 1, 0, 1, -1), -1);
        Check.due("4 none was made", x.versions(false), 4);
        Check.due("4 no places", x.versions(true), 3);
    }

    private static void promise5Turn() {
        RankShelf x = Check.shelfOf(4, 5, 6);
        x.put(0, 1);
        Check.due("5 the middle", x.turn(0, 1, 1023, -7), 4);
        Check.due("5 comes to p", x.row(0, 2), 4);
        Check.due("5 length", x.row(0, 1), 3);
        Check.due("5 at 0", x.at(0, 0), 4);
        Check.due("5 at 1", x.at(0, 1), 1023);
        Check.due("5 at 2", x.at(0, 2), 6);
        Check.due("5 weight 1", x.weight(0, 1), -7);
        Check.due("5 weight 2", x.weight(0, 2), 100);
        Check.due("5 the other stays", x.at(1, 1), 5);
        Check.due("5 makes two", x.versions(true), 5);
        Check.due("5 the last", x.turn(0, 2, 0, 0), 5);
        Check.due("5 makes one", x.versions(true), 6);
        Check.due("5 the first", x.turn(0, 0, 1, 1), 6);
        Check.due("5 makes three", x.versions(true), 9);
        Check.due("5 at 1 again", x.at(0, 1), 1023);
        Check.due("5 parent", x.about(6, 1), 5);
    }

    private static void promise5TurnOrder() {
        RankShelf x = Check.shelfOf(4, 5, 6);
        x.seal(0, 1, true);
        Check.due("5 p", x.turn(12, 9, 9999, 0), -1);
        Check.due("5 nothing", x.turn(2, 9, 9999, 0), -2);
        Check.due("5 kind", x.turn(1, 9, 9999, 0), -3);
        Check.due("5 i below", x.turn(0, -1, 0, 0), -1);
        Check.due("5 i at the end", x.turn(0, 3, 0, 0), -1);
        Check.due("5 value below", x.turn(0, 0, -1, 0), -1);
        Check.due("5 value above", x.turn(0, 0, 1024, 0), -1);
        Check.due("5 none was made", x.versions(false), 4);
        Check.due("5 no places", x.versions(true), 3);
    }

    private static void promise6Version() {
        RankShelf x = Check.shelfOf(4, 5, 6);
        Check.due("6 an old one", x.version(2, 7), 2);
        Check.due("6 is there", x.row(7, 2), 2);
        Check.due("6 version 0", x.version(0, 0), 0);
        x.seal(7, 8, true);
        Check.due("6 over a short one", x.version(3, 8), 3);
        Check.due("6 grown", x.row(8, 0), 0);
        Check.due("6 v below", x.version(-1, 0), -1);
        Check.due("6 v above", x.version(4, 0), -1);
        Check.due("6 v far above", x.version(500, 0), -1);
        Check.due("6 r below", x.version(0, -1), -1);
        Check.due("6 r above", x.version(0, 12), -1);
        Check.due("6 makes none", x.versions(false), 4);
        Check.due("6 found", x.found(-1), 5);
    }

    private static void promise7About() {
        RankShelf x = Check.shelfOf(4, 5, 6);
        x.version(1, 0);
        x.push(0, 7, 7, 1);
        x.cut(0, 0, 2);
        Check.due("7 length", x.about(3, 0), 3);
        Check.due("7 parent", x.about(4, 1), 1);
        Check.due("7 parent of 0", x.about(0, 1), -6);
        Check.due("7 made from 1", x.about(1, 2), 3);
        Check.due("7 made from 3", x.about(3, 2), 0);
        Check.due("7 0 is no fork", x.about(0, 3), 0);
        Check.due("7 the first is no fork", x.about(2, 3), 0);
        Check.due("7 the second is", x.about(4, 3), 1);
        Check.due("7 the third is", x.about(5, 3), 1);
        Check.due("7 ancestors of 0", x.about(0, 4), 1);
        Check.due("7 ancestors of 3", x.about(3, 4), 4);
        Check.due("7 ancestors of 5", x.about(5, 4), 3);
        Check.due("7 found none", x.found(-6), 1);
        Check.due("7 v below", x.about(-1, 0), -1);
        Check.due("7 v above", x.about(6, 0), -1);
        Check.due("7 what below", x.about(0, -1), -1);
        Check.due("7 what above", x.about(0, 5), -1);
        Check.due("7 found beyond", x.found(-1), 4);
    }

    private static void promise8Common() {
        RankShelf x = Check.shelfOf(4, 5, 6);
        x.version(1, 1);
        x.push(1, 7, 7, 1);
        x.push(1, 7, 7, 1);
        Check.due("8 two ways", x.common(3, 5), 1);
        Check.due("8 the other way about", x.common(5, 3), 1);
        Check.due("8 one is the other's", x.common(5, 4), 4);
        Check.due("8 itself", x.common(5, 5), 5);
        Check.due("8 with 0", x.common(0, 5), 0);
        Check.due("8 0 with itself", x.common(0, 0), 0);
        Check.due("8 v below", x.common(-1, 0), -1);
        Check.due("8 u below", x.common(0, -1), -1);
        Check.due("8 v above", x.common(6, 0), -1);
        Check.due("8 u above", x.common(0, 6), -1);
        Check.due("8 both", x.common(MIN, MAX), -1);
        Check.due("8 found", x.found(-1), 5);
    }

    private static void promise9Versions() {
        RankShelf x = Check.shelfOf(4, 5, 6);
        Check.due("9 versions", x.versions(false), 4);
        Check.due("9 made", x.versions(true), 3);
        x.cut(0, 1, 0);
        Check.due("9 versions with a cut", x.versions(false), 5);
        Check.due("9 made with a cut", x.versions(true), 3);
        x.seal(0, 1, true);
        x.put(1, 2);
        x.take(1);
        x.version(3, 1);
        Check.due("9 the shelf makes none", x.versions(false), 5);
        Check.due("9 and no places", x.versions(true), 3);
    }
}
