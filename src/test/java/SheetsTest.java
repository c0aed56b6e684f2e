/** Promises 36 to 39: sheet, lay, read, torn. */
public final class SheetsTest {
    private static final Check CHECK = new Check();

    public static void main(String[] args) {
        sheet();
        lay();
        newRowsAreOfZeros();
        lowestBits();
        read();
        readTorn();
        readRefused();
        noneIsRead();
        CHECK.finish();
    }

    private static void sheet() {
        CoilWheels x = new CoilWheels();
        for (int v : Check.EXTREMES) {
            CHECK.due("sheet(" + v + ", 0, 1)", x.sheet(v, 0, 1), Check.BAD);
            CHECK.due("sheet(0, " + v + ", 1)", x.sheet(0, v, 1), Check.BAD);
        }
        CHECK.due("sheet(4, 0, 1)", x.sheet(4, 0, 1), Check.BAD);
        CHECK.due("sheet(0, 3, 1)", x.sheet(0, 3, 1), Check.BAD);
        CHECK.due("sheet(0, 0, 41)", x.sheet(0, 0, 41), Check.BAD);
        CHECK.due("sheet(0, 0, -1)", x.sheet(0, 0, -1), -14);
        CHECK.due("sheet(0, 0, MIN)", x.sheet(0, 0, Integer.MIN_VALUE), -14);
        CHECK.due("sheet(4, 0, -1)", x.sheet(4, 0, -1), Check.BAD);
        CHECK.due("sheet(0, 3, -1)", x.sheet(0, 3, -1), Check.BAD);
        CHECK.due("count(3)", x.count(3), Check.NONE);
        CHECK.due("sheet(0, 2, 40)", x.sheet(0, 2, 40), 1);
        CHECK.due("sheet(3, 1, 0)", x.sheet(3, 1, 0), 1);
        CHECK.due("sheet(0, 2, -1)", x.sheet(0, 2, -1), -14);
        CHECK.due("count(3) stays", x.count(3), 40);
        CHECK.due("sheet(0, 2, 41)", x.sheet(0, 2, 41), Check.BAD);
        CHECK.due("count(3) stays again", x.count(3), 40);
    }

    private static void lay() {
        CoilWheels x = new CoilWheels();
        CHECK.due("lay(-1, 0, 0)", x.lay(-1, 0, 0), Check.BAD);
        CHECK.due("lay(4, 0, 0)", x.lay(4, 0, 0), Check.BAD);
        CHECK.due("lay(1, 0, 0) of nothing", x.lay(1, 0, 0), -11);
        CHECK.due("lay(1, -1, 0) of nothing", x.lay(1, -1, 0), -11);
        x.sheet(1, 0, 3);
        CHECK.due("lay(1, 0, 9)", x.lay(1, 0, 9), 1);
        CHECK.due("lay(1, 2, 9)", x.lay(1, 2, 9), 1);
        CHECK.due("lay(1, 3, 9)", x.lay(1, 3, 9), -12);
        for (int i : Check.EXTREMES) {
            CHECK.due("lay(1, " + i + ", 9)", x.lay(1, i, 9), -12);
        }
        CHECK.due("lay(0, 0, 9) of another", x.lay(0, 0, 9), -11);
        x.sheet(1, 0, 0);
        CHECK.due("lay(1, 0, 9) of an empty row", x.lay(1, 0, 9), -12);
    }

    private static void newRowsAreOfZeros() {
        CoilWheels x = CHECK.told("signs 3 3;");
        for (int lane = 0; lane <= 2; lane++) {
            x.sheet(0, lane, 40);
            for (int i = 0; i < 40; i++) {
                x.lay(0, i, 9);
            }
            CHECK.due("read of nines", x.read(0, lane, 0, 1), -20);
            x.sheet(0, lane, 40);
            CHECK.due("read of a new row", x.read(0, lane, 0, 20), 20);
            CHECK.due("sign(0)", x.sign(0), 0);
            x.set(0, 3);
        }
    }

    private static void lowestBits() {
        // Laid as which SIGN: what is left of it by the lane is SIGN 1, or none.
        laid(0, 1, true);
        laid(0, 257, true);
        laid(0, -255, true);
        laid(0, 65537, true);
        laid(0, 129, false);
        laid(1, 257, false);
        laid(1, 65537, true);
        laid(1, 32769, false);
        laid(1, -65535, true);
        laid(2, 1, true);
        laid(2, 257, false);
        laid(2, 65537, false);
        laid(2, -1, false);
    }

    private static void laid(int lane, int v, boolean isOne) {
        CoilWheels x = CHECK.told("signs 3 3;");
        x.sheet(2, lane, 2);
        x.lay(2, 0, v);
        CHECK.due("read of " + v + " in lane " + lane, x.read(2, lane, 0, 1), isOne ? 1 : -20);
        CHECK.due("sign(1) then", x.sign(1), isOne ? 0 : 3);
    }

    private static void read() {
        CoilWheels x = CHECK.told("signs 0 0 0 0;");
        x.sheet(0, 1, 40);
        int[] cells = {0, 1, 1, 2, 2, 3, 0, 2, 3, 1};
        lay(x, 0, cells);
        CHECK.due("read(0, 1, 0, 0)", x.read(0, 1, 0, 0), 0);
        signs(x, 0, 0, 0, 0);
        CHECK.due("read(0, 1, 2, 2)", x.read(0, 1, 2, 2), 2);
        signs(x, 0, 2, 3, 0);
        CHECK.due("read(0, 1, 0, 5): the later ones stay", x.read(0, 1, 0, 5), 5);
        signs(x, 2, 2, 3, 1);
        CHECK.due("torn()", x.torn(), 0);
        // Two CELLS each from any CELL on.
        CHECK.due("read(0, 1, 1, 2)", x.read(0, 1, 1, 2), 2);
        signs(x, 2, 1, 2, 1);
        CHECK.due("read(0, 1, 0, 20)", x.read(0, 1, 0, 20), 20);
        signs(x, 0, 2, 3, 1);
        CHECK.due("read(0, 1, 39, 1)", x.read(0, 1, 39, 1), 0);
        CHECK.due("torn() then", x.torn(), 2);
        CHECK.due("read(0, 1, 38, 1)", x.read(0, 1, 38, 1), 1);
        CHECK.due("torn() at last", x.torn(), 0);
    }

    private static void readTorn() {
        CoilWheels x = CHECK.told("signs 0 0 0;");
        torn(x, "nothing", x.read(3, 2, 0, 1), 0, 1);
        torn(x, "nothing by a wild index", x.read(3, 2, -5, 1), 0, 1);
        x.sheet(3, 2, 5);
        lay(x, 3, new int[] {0, 1, 1, 1, 2});
        torn(x, "another lane", x.read(3, 0, 0, 2), 0, 3);
        torn(x, "another lane by a wild index", x.read(3, 1, -1, 2), 0, 3);
        torn(x, "below the row", x.read(3, 2, -1, 2), 0, 2);
        torn(x, "far below the row", x.read(3, 2, Integer.MIN_VALUE, 20), 0, 2);
        torn(x, "behind the row", x.read(3, 2, 5, 1), 0, 2);
        torn(x, "far behind the row", x.read(3, 2, Integer.MAX_VALUE, 20), 0, 2);
        torn(x, "half a pair", x.read(3, 2, 4, 1), 0, 2);
        signs(x, 0, 0, 0);
        torn(x, "two ahead of half a pair", x.read(3, 2, 0, 3), 2, 2);
        signs(x, 1, 1, 0);
        torn(x, "none torn", x.read(3, 2, 0, 2), 2, 0);
        x.sheet(3, 2, 0);
        torn(x, "an empty row", x.read(3, 2, 0, 1), 0, 2);
    }

    private static void readRefused() {
        CoilWheels x = CHECK.told("signs 0 0 0;");
        x.sheet(0, 0, 7);
        lay(x, 0, new int[] {0, 1, 3, 1, 1, 4, 0});
        x.read(1, 0, 0, 1);
        CHECK.due("read(0, 0, 0, 2)", x.read(0, 0, 0, 2), -21);
        signs(x, 0, 0, 0);
        CHECK.due("torn() stays", x.torn(), 1);
        CHECK.due("read(0, 0, 2, 20)", x.read(0, 0, 2, 20), -20);
        CHECK.due("read(0, 0, 0, 20): refused ahead of what is torn", x.read(0, 0, 0, 20), -21);
        x.lay(0, 2, 2);
        CHECK.due("read(0, 0, 0, 20): the third", x.read(0, 0, 0, 20), -22);
        signs(x, 0, 0, 0);
        x.lay(0, 4, -1);
        x.lay(0, 5, 3);
        CHECK.due("read(0, 0, 0, 20): below nothing", x.read(0, 0, 0, 20), -22);
        CHECK.due("torn() stays still", x.torn(), 1);
        for (int v : Check.EXTREMES) {
            CHECK.due("read(" + v + ", 0, 0, 1)", x.read(v, 0, 0, 1), Check.BAD);
            CHECK.due("read(0, " + v + ", 0, 1)", x.read(0, v, 0, 1), Check.BAD);
            CHECK.due("read(0, 0, 0, " + v + ")", x.read(0, 0, 0, v), Check.BAD);
        }
        CHECK.due("read(4, 0, 0, 1)", x.read(4, 0, 0, 1), Check.BAD);
        CHECK.due("read(0, 3, 0, 1)", x.read(0, 3, 0, 1), Check.BAD);
        CHECK.due("read(0, 0, 0, 21)", x.read(0, 0, 0, 21), Check.BAD);
        CHECK.due("torn() at last", x.torn(), 1);
        x.lay(0, 4, 2);
        CHECK.due("read(0, 0, 0, 20): half a pair is not looked at", x.read(0, 0, 0, 20), 3);
        signs(x, 1, 0, 3);
        CHECK.due("torn() of half a pair", x.torn(), 2);
        CoilWheels none = new CoilWheels();
        none.sheet(0, 0, 2);
        CHECK.due("no signs: read(0, 0, 0, 1)", none.read(0, 0, 0, 1), -20);
    }

    /** Where nothing is read, the machine finds nothing. */
    private static void noneIsRead() {
        CoilWheels x = CHECK.told("signs 0;");
        x.sheet(0, 0, 1);
        torn(x, "half a pair", x.read(0, 0, 0, 1), 0, 2);
        torn(x, "none of nothing", x.read(1, 0, 0, 0), 0, 0);
        torn(x, "half a pair", x.read(0, 0, 0, 1), 0, 2);
        torn(x, "none of another lane", x.read(0, 1, 0, 0), 0, 0);
        torn(x, "none from a wild index", x.read(0, 0, -7, 0), 0, 0);
    }

    private static void lay(CoilWheels x, int k, int[] cells) {
        for (int i = 0; i < cells.length; i++) {
            CHECK.due("lay(" + k + ", " + i + ", " + cells[i] + ")", x.lay(k, i, cells[i]), 1);
        }
    }

    private static void torn(CoilWheels x, String what, int came, int wantCame, int wantTorn) {
        CHECK.due("read: " + what, came, wantCame);
        CHECK.due("torn(): " + what, x.torn(), wantTorn);
    }

    private static void signs(CoilWheels x, int... want) {
        for (int i = 0; i < want.length; i++) {
            CHECK.due("sign(" + i + ")", x.sign(i), want[i]);
        }
    }
}
