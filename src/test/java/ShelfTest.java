/** Promises 10 to 17: what stands on the shelf, and the planes of its sealed rows. */
public final class ShelfTest {
    private static final int MIN = Integer.MIN_VALUE;
    private static final int MAX = Integer.MAX_VALUE;

    public static void main(String[] args) {
        promise10Seal();
        promise10SealOrder();
        promise11Put();
        promise12Take();
        promise13Row();
        promise14At();
        promise15Weight();
        promise16Bit();
        promise16BitOfShort();
        promise16BitOrder();
        promise17Ones();
        Check.end();
    }

    private static void promise10Seal() {
        RankShelf x = Check.shelfOf(0, 255, 7);
        Check.due("10 sealed", x.seal(0, 1, false), 3);
        Check.due("10 kind 1", x.row(1, 0), 1);
        Check.due("10 short", x.seal(0, 2, true), 3);
        Check.due("10 kind 2", x.row(2, 0), 2);
        Check.due("10 p stays", x.row(0, 0), 0);
        Check.due("10 short from sealed", x.seal(1, 3, true), 3);
        Check.due("10 kind of that", x.row(3, 0), 2);
        Check.due("10 sealed from short", x.seal(2, 4, false), 3);
        Check.due("10 kind of this", x.row(4, 0), 1);
        Check.due("10 the same places", x.first(0, 4), -6);
        Check.due("10 in place", x.seal(0, 0, true), 3);
        Check.due("10 kind in place", x.row(0, 0), 2);
        Check.due("10 no version more", x.versions(false), 4);
        x.version(3, 0);
        x.turn(0, 0, 99, 99);
        Check.due("10 later turns don't reach it", x.at(1, 0), 0);
        x.version(0, 5);
        Check.due("10 no places", x.seal(5, 6, true), 0);
        Check.due("10 short of none", x.row(6, 0), 2);
    }

    private static void promise10SealOrder() {
        RankShelf x = Check.shelfOf(255, 256);
        Check.due("10 256 isn't short", x.seal(0, 1, true), -1);
        Check.due("10 nothing came", x.row(1, 0), -2);
        Check.due("10 sealed it may be", x.seal(0, 1, false), 2);
        Check.due("10 nor from sealed", x.seal(1, 1, true), -1);
        Check.due("10 it stays", x.row(1, 0), 1);
        x.cut(0, 1, 2);
        Check.due("10 255 is short", x.seal(2, 3, true), 1);
        x.version(0, 4);
        x.push(4, 1023, 0, 4);
        Check.due("10 1023 isn't", x.seal(4, 5, true), -1);
        Check.due("10 p below", x.seal(-1, 99, false), -1);
        Check.due("10 p above", x.seal(12, 99, false), -1);
        Check.due("10 nothing ahead of r", x.seal(9, 99, false), -2);
        Check.due("10 r below", x.seal(0, -1, false), -1);
        Check.due("10 r above", x.seal(0, 12, false), -1);
        Check.due("10 found", x.found(-1), 7);
        Check.due("10 found nothing", x.found(-2), 2);
    }

    private static void promise11Put() {
        RankShelf x = Check.shelfOf(3, 4);
        x.seal(0, 1, false);
        x.seal(0, 2, true);
        Check.due("11 grown", x.put(0, 11), 0);
        Check.due("11 sealed", x.put(1, 10), 1);
        Check.due("11 short", x.put(2, 9), 2);
        Check.due("11 its version", x.row(11, 2), 2);
        Check.due("11 it is at p, too", x.row(2, 0), 2);
        Check.due("11 kind at r", x.row(9, 0), 2);
        Check.due("11 length at r", x.row(10, 1), 2);
        Check.due("11 onto itself", x.put(2, 2), 2);
        Check.due("11 over another", x.put(0, 9), 0);
        Check.due("11 and it is that", x.row(9, 0), 0);
        Check.due("11 p below", x.put(-1, 0), -1);
        Check.due("11 p above", x.put(12, 0), -1);
        Check.due("11 nothing ahead of r", x.put(5, 12), -2);
        Check.due("11 r below", x.put(0, -1), -1);
        Check.due("11 r above", x.put(0, 12), -1);
        Check.due("11 makes none", x.versions(false), 3);
        Check.due("11 r grows alone", x.push(11, 1, 1, 11), 3);
        Check.due("11 p doesn't", x.row(0, 2), 2);
    }

    private static void promise12Take() {
        RankShelf x = Check.shelfOf(3, 4);
        Check.due("12 take", x.take(0), 0);
        Check.due("12 nothing there", x.row(0, 0), -2);
        Check.due("12 again", x.take(0), 0);
        Check.due("12 an empty place", x.take(11), 0);
        Check.due("12 below", x.take(-1), -1);
        Check.due("12 above", x.take(12), -1);
        Check.due("12 versions stay", x.version(2, 0), 2);
        Check.due("12 with their values", x.at(0, 1), 4);
        Check.due("12 found", x.found(-1), 2);
    }

    private static void promise13Row() {
        RankShelf x = Check.shelfOf(3, 4);
        x.seal(0, 1, false);
        x.seal(0, 2, true);
        Check.due("13 kind", x.row(0, 0), 0);
        Check.due("13 length", x.row(0, 1), 2);
        Check.due("13 version", x.row(0, 2), 2);
        Check.due("13 sealed kind", x.row(1, 0), 1);
        Check.due("13 sealed length", x.row(1, 1), 2);
        Check.due("13 sealed version", x.row(1, 2), -3);
        Check.due("13 short version", x.row(2, 2), -3);
        Check.due("13 what above", x.row(1, 3), -1);
        Check.due("13 what below", x.row(1, -1), -1);
        Check.due("13 nothing ahead of what", x.row(3, 9), -2);
        Check.due("13 p below", x.row(-1, 0), -1);
        Check.due("13 p above", x.row(12, 0), -1);
        Check.due("13 found", x.found(-1), 4);
        Check.due("13 found kind", x.found(-3), 2);
    }

    private static void promise14At() {
        RankShelf x = Check.shelfOf(3, 1023, 0);
        x.seal(0, 1, false);
        for (int p = 0; p < 2; p++) {
            Check.due("14 at 0", x.at(p, 0), 3);
            Check.due("14 at 1", x.at(p, 1), 1023);
            Check.due("14 at 2", x.at(p, 2), 0);
            Check.due("14 at 3", x.at(p, 3), -1);
            Check.due("14 at -1", x.at(p, -1), -1);
            Check.due("14 at the greatest", x.at(p, MAX), -1);
            Check.due("14 at the least", x.at(p, MIN), -1);
        }
        Check.due("14 nothing", x.at(5, -1), -2);
        Check.due("14 p", x.at(12, 0), -1);
        RankShelf y = Check.longShelf();
        Check.due("14 at 255", y.at(0, 255), 255);
        Check.due("14 at 399", y.at(0, 399), 143);
        Check.due("14 at 400", y.at(0, 400), -1);
    }

    private static void promise15Weight() {
        RankShelf x = new RankShelf();
        x.push(0, 1, MIN, 0);
        x.push(0, 1, MAX, 0);
        x.push(0, 1, -1, 0);
        x.seal(0, 1, true);
        for (int p = 0; p < 2; p++) {
            Check.due("15 weight 0", x.weight(p, 0), -2147483648L);
            Check.due("15 weight 1", x.weight(p, 1), 2147483647L);
            Check.due("15 weight 2", x.weight(p, 2), -1L);
        }
        x.version(0, 3);
        x.push(3, 9, 77, 3);
        Check.due("15 of another row", x.weight(3, 0), 77);
        Check.due("15 and of the first again", x.weight(0, 0), MIN);
        Check.due("15 i above", x.weight(0, 3), 0);
        Check.due("15 i below", x.weight(0, -1), 0);
        Check.due("15 p", x.weight(12, 0), 0);
        Check.due("15 nothing", x.weight(2, 0), 0);
        Check.due("15 found beyond", x.found(-1), 3);
        Check.due("15 found nothing", x.found(-2), 1);
    }

    private static void promise16Bit() {
        // 0x200 has bit 9 alone, 0x100 bit 8, 0x001 bit 0.
        RankShelf x = Check.shelfOf(0x200, 0x101, 0x001, 0x300);
        x.seal(0, 1, false);
        int[] plane0 = {1, 0, 0, 1};
        // In the order 0x101, 0x001, 0x200, 0x300.
        int[] plane1 = {1, 0, 0, 1};
        // In the order 0x001, 0x200, 0x101, 0x300.
        int[] plane9 = {1, 0, 1, 0};
        for (int i = 0; i < 4; i++) {
            Check.due("16 plane 0", x.bit(1, 0, i), plane0[i]);
            Check.due("16 plane 1", x.bit(1, 1, i), plane1[i]);
            Check.due("16 plane 5", x.bit(1, 5, i), 0);
            Check.due("16 plane 9", x.bit(1, 9, i), plane9[i]);
        }
        Check.due("16 the row is as it was", x.at(1, 0), 0x200);
        Check.due("16 and its weights", x.weight(1, 3), 1);
    }

    private static void promise16BitOfShort() {
        RankShelf x = Check.shelfOf(0x80, 0x41, 0x01, 0xc0);
        x.seal(0, 1, true);
        int[] plane0 = {1, 0, 0, 1};
        int[] plane1 = {1, 0, 0, 1};
        int[] plane7 = {1, 0, 1, 0};
        for (int i = 0; i < 4; i++) {
            Check.due("16 short plane 0", x.bit(1, 0, i), plane0[i]);
            Check.due("16 short plane 1", x.bit(1, 1, i), plane1[i]);
            Check.due("16 short plane 7", x.bit(1, 7, i), plane7[i]);
        }
    }

    private static void promise16BitOrder() {
        RankShelf x = Check.shelfOf(1, 2);
        x.seal(0, 1, false);
        x.seal(0, 2, true);
        Check.due("16 p below", x.bit(-1, 99, 99), -1);
        Check.due("16 p above", x.bit(12, 0, 0), -1);
        Check.due("16 nothing", x.bit(3, 99, 99), -2);
        Check.due("16 kind ahead of plane", x.bit(0, 99, 99), -3);
        Check.due("16 plane 10", x.bit(1, 10, 0), -1);
        Check.due("16 plane -1", x.bit(1, -1, 0), -1);
        Check.due("16 plane 9", x.bit(1, 9, 0), 1);
        Check.due("16 plane 8 of short", x.bit(2, 8, 0), -1);
        Check.due("16 plane 7 of short", x.bit(2, 7, 0), 1);
        Check.due("16 i below", x.bit(1, 0, -1), -1);
        Check.due("16 i at the end", x.bit(1, 0, 2), -1);
        Check.due("16 i at the end of short", x.bit(2, 0, 2), -1);
        Check.due("16 greatest plane", x.bit(1, MAX, 0), -1);
        Check.due("16 found", x.found(-1), 9);
        Check.due("16 found kind", x.found(-3), 1);
    }

    private static void promise17Ones() {
        RankShelf x = Check.shelfOf(0x200, 0x101, 0x001, 0x300);
        x.seal(0, 1, false);
        int[] plane9 = {0, 1, 1, 2, 2};
        for (int i = 0; i <= 4; i++) {
            Check.due("17 plane 9", x.ones(1, 9, i), plane9[i]);
        }
        Check.due("17 i 5", x.ones(1, 9, 5), -1);
        Check.due("17 i -1", x.ones(1, 9, -1), -1);
        Check.due("17 plane 10", x.ones(1, 10, 0), -1);
        Check.due("17 plane -1", x.ones(1, -1, 0), -1);
        Check.due("17 p", x.ones(12, 0, 0), -1);
        Check.due("17 nothing", x.ones(2, 99, 99), -2);
        Check.due("17 kind", x.ones(0, 99, 99), -3);
        RankShelf y = Check.longShelf();
        Check.due("17 short of 400", y.seal(0, 1, true), 400);
        Check.due("17 plane 0 of 400", y.ones(1, 0, 400), 128 + 16);
        Check.due("17 plane 7 of 400", y.ones(1, 7, 400), 200);
        Check.due("17 plane 8 of short", y.ones(1, 8, 0), -1);
        Check.due("17 401 bits", y.ones(1, 0, 401), -1);
    }
}
