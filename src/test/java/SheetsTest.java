/** SHEETS, and promises 36 to 39: sheet, lay, read, torn. */
public final class SheetsTest {
    private static final Check CHECK = new Check();

    public static void main(String[] args) {
        sheetsAtFirst();
        faultsOfTheMachine();
        sheet();
        sheetIsBadOrTooSmall();
        lay();
        lowestBits();
        layIsBadOrFaulty();
        read();
        readOneBehindAnother();
        readOfNone();
        readOfTwenty();
        readTorn();
        readIsBad();
        readRefused();
        firstMet();
        torn();
        CHECK.finish();
    }

    private static void sheetsAtFirst() {
        CHECK.says(Check.TERMS, "SHEETS 0 to 3 are rows of BYTES (lane 0), SHORTS (1), INTS (2) with 0 to 40 CELLS, or nothing (at first).");
        for (int k = 0; k < 4; k++) {
            CoilWheels x = new CoilWheels();
            CHECK.due("lay(" + k + ", 0, 0) at first", x.lay(k, 0, 0), -11);
            for (int lane = 0; lane <= 2; lane++) {
                CHECK.due("sheet(" + k + ", " + lane + ", 0)", x.sheet(k, lane, 0), 1);
                CHECK.due("lay of no CELL", x.lay(k, 0, 0), -12);
                CHECK.due("sheet(" + k + ", " + lane + ", 40)", x.sheet(k, lane, 40), 1);
                CHECK.due("lay of the first CELL", x.lay(k, 0, 0), 1);
                CHECK.due("lay of the last CELL", x.lay(k, 39, 0), 1);
                CHECK.due("lay of no CELL behind", x.lay(k, 40, 0), -12);
            }
            for (int other = 0; other < 4; other++) {
                CHECK.due("lay(" + other + ", 0, 0): each by itself", x.lay(other, 0, 0), other == k ? 1 : -11);
            }
        }
        CHECK.due("sheet(4, 0, 1): there are four", new CoilWheels().sheet(4, 0, 1), Check.BAD);
    }

    private static void faultsOfTheMachine() {
        CHECK.says(Check.TERMS, "A FAULT is what the machine finds: 1 NULL (nothing), 2 INDEX, 3 CAST (another lane), 4 SIZE (below 0).");
        CoilWheels x = CHECK.told("signs 0;");
        torn(x, "NULL", x.read(0, 0, 0, 1), 0, 1);
        CHECK.due("lay: NULL", x.lay(0, 0, 0), -11);
        CHECK.due("sheet: SIZE", x.sheet(0, 0, -1), -14);
        x.sheet(0, 0, 1);
        CHECK.due("lay: INDEX behind", x.lay(0, 1, 0), -12);
        CHECK.due("lay: INDEX below", x.lay(0, -1, 0), -12);
        torn(x, "INDEX", x.read(0, 0, 0, 1), 0, 2);
        for (int lane = 0; lane <= 2; lane++) {
            x.sheet(0, lane, 2);
            for (int as = 0; as <= 2; as++) {
                torn(x, "lane " + lane + " as of " + as, x.read(0, as, 0, 1), as == lane ? 1 : 0, as == lane ? 0 : 3);
            }
        }
    }

    private static void sheet() {
        CHECK.says(36, "A SHEET is a new row of CELLS 0: 1.");
        CoilWheels x = CHECK.told("signs 3 3;");
        for (int lane = 0; lane <= 2; lane++) {
            x.sheet(0, lane, 40);
            for (int i = 0; i < 40; i++) {
                x.lay(0, i, 9);
            }
            CHECK.due("read of nines", x.read(0, lane, 0, 1), -20);
            CHECK.due("sheet(0, " + lane + ", 40)", x.sheet(0, lane, 40), 1);
            CHECK.due("read of a new row", x.read(0, lane, 0, 20), 20);
            CHECK.due("sign(0)", x.sign(0), 0);
            x.set(0, 3);
        }
        // Shorter, then longer: what was laid behind does not come back.
        x.lay(0, 5, 9);
        x.sheet(0, 2, 2);
        CHECK.due("lay behind it", x.lay(0, 2, 0), -12);
        x.sheet(0, 2, 8);
        CHECK.due("read of a longer row", x.read(0, 2, 4, 1), 1);
        // One is no other.
        x.sheet(1, 2, 2);
        x.lay(1, 1, 2);
        CHECK.due("read of another", x.read(0, 2, 0, 1), 1);
        CHECK.due("sign(0) by another", x.sign(0), 0);
    }

    private static void sheetIsBadOrTooSmall() {
        CHECK.says(36, "BAD: also n above 40; -10 - 4.");
        CHECK.bounds("sheet(?, 0, 1)", 0, 3, k -> new CoilWheels().sheet(k, 0, 1));
        CHECK.bounds("sheet(0, ?, 1)", 0, 2, lane -> new CoilWheels().sheet(0, lane, 1));
        CHECK.due("sheet(0, 0, 0)", new CoilWheels().sheet(0, 0, 0), 1);
        CHECK.due("sheet(0, 0, 40)", new CoilWheels().sheet(0, 0, 40), 1);
        CHECK.due("sheet(0, 0, 41)", new CoilWheels().sheet(0, 0, 41), Check.BAD);
        CHECK.due("sheet(0, 0, MAX)", new CoilWheels().sheet(0, 0, Integer.MAX_VALUE), Check.BAD);
        CHECK.due("sheet(0, 0, -1)", new CoilWheels().sheet(0, 0, -1), -14);
        CHECK.due("sheet(0, 0, MIN)", new CoilWheels().sheet(0, 0, Integer.MIN_VALUE), -14);
        CHECK.bounds("sheet(?, 0, -1): BAD fits first", 0, 3, k -> new CoilWheels().sheet(k, 0, -1));
        CHECK.bounds("sheet(0, ?, -1): BAD fits first", 0, 2, lane -> new CoilWheels().sheet(0, lane, -1));
        CoilWheels x = new CoilWheels();
        x.sheet(0, 0, -1);
        x.sheet(0, 0, 41);
        CHECK.due("count(3): nothing still", x.count(3), Check.NONE);
        x.sheet(0, 2, 40);
        x.sheet(0, 1, -1);
        x.sheet(0, 1, 41);
        CHECK.due("count(3) stays", x.count(3), 40);
        CHECK.due("read: the lane stays", x.read(0, 2, 0, 1), -20);
        CHECK.due("torn(): none of another lane", x.torn(), 0);
        CHECK.due("torn() is not of a sheet()", new CoilWheels().torn(), 0);
    }

    private static void lay() {
        CHECK.says(37, "CELL i of a SHEET becomes v (its lowest bits): 1.");
        CoilWheels x = CHECK.told("signs 0 0 0;");
        x.sheet(1, 0, 4);
        CHECK.due("lay(1, 0, 2)", x.lay(1, 0, 2), 1);
        CHECK.due("lay(1, 3, 3)", x.lay(1, 3, 3), 1);
        CHECK.due("lay(1, 1, 1)", x.lay(1, 1, 1), 1);
        CHECK.due("lay(1, 1, 2) again", x.lay(1, 1, 2), 1);
        CHECK.due("read(1, 0, 0, 2)", x.read(1, 0, 0, 2), 2);
        signs(x, 3, 0, 2);
    }

    private static void lowestBits() {
        CHECK.says(37, "becomes v (its lowest bits):");
        // Laid as which SIGN: what is left of it by the lane is SIGN 1, or none.
        laid(0, 1, true);
        laid(0, 257, true);
        laid(0, -255, true);
        laid(0, 65537, true);
        laid(0, Integer.MIN_VALUE + 1, true);
        laid(0, 127, false);
        laid(0, 128, false);
        laid(0, 129, false);
        laid(0, -1, false);
        laid(0, 255, false);
        laid(1, 1, true);
        laid(1, 257, false);
        laid(1, 65537, true);
        laid(1, 32769, false);
        laid(1, -65535, true);
        laid(1, Integer.MIN_VALUE + 1, true);
        laid(1, -1, false);
        laid(2, 1, true);
        laid(2, 257, false);
        laid(2, 65537, false);
        laid(2, Integer.MIN_VALUE + 1, false);
        laid(2, -1, false);
        // Laid as what it is to be: 3 as it stays, or nothing that a SIGN can be.
        CoilWheels x = CHECK.told("signs 0;");
        int[][] becomes = {{0, 259, 1}, {0, -253, 1}, {0, 131, -20}, {1, 65539, 1}, {1, 259, -20}, {2, 3, 1}, {2, 65539, -20}};
        for (int[] b : becomes) {
            x.set(0, 0);
            x.sheet(0, b[0], 2);
            x.lay(0, 1, b[1]);
            CHECK.due("read of " + b[1] + " in lane " + b[0], x.read(0, b[0], 0, 1), b[2]);
            CHECK.due("sign(0) then", x.sign(0), b[2] == 1 ? 3 : 0);
        }
    }

    private static void laid(int lane, int v, boolean isOne) {
        CoilWheels x = CHECK.told("signs 3 3;");
        x.sheet(2, lane, 2);
        x.lay(2, 0, v);
        CHECK.due("read of " + v + " in lane " + lane, x.read(2, lane, 0, 1), isOne ? 1 : -20);
        CHECK.due("sign(1) then", x.sign(1), isOne ? 0 : 3);
    }

    private static void layIsBadOrFaulty() {
        CHECK.says(37, "BAD: k; -10 less the FAULT: NULL, INDEX.");
        CHECK.bounds("lay(?, 0, 0) of nothing", 0, 3, k -> new CoilWheels().lay(k, 0, 0));
        CoilWheels x = CHECK.told("signs 3;");
        for (int i : new int[] {0, 40, -1, Integer.MIN_VALUE, Integer.MAX_VALUE}) {
            CHECK.due("lay(1, " + i + ", 0) of nothing", x.lay(1, i, 0), -11);
        }
        x.sheet(1, 0, 3);
        CHECK.due("lay(1, 2, 9)", x.lay(1, 2, 9), 1);
        CHECK.due("lay(1, 3, 9)", x.lay(1, 3, 9), -12);
        for (int i : Check.EXTREMES) {
            CHECK.due("lay(1, " + i + ", 9)", x.lay(1, i, 9), -12);
        }
        CHECK.due("lay(0, 0, 9) of another", x.lay(0, 0, 9), -11);
        CHECK.due("lay(4, 0, 9)", x.lay(4, 0, 9), Check.BAD);
        CHECK.due("lay(-1, 0, 9)", x.lay(-1, 0, 9), Check.BAD);
        CHECK.due("read: what was refused is not laid", x.read(1, 0, 0, 1), 1);
        x.sheet(1, 0, 0);
        CHECK.due("lay(1, 0, 9) of an empty row", x.lay(1, 0, 9), -12);
        CHECK.due("torn() is not of a lay()", x.torn(), 0);
    }

    private static void read() {
        CHECK.says(38, "n (0 to 20) times which SIGN, what it is to be are read of a SHEET taken as of a lane, "
            + "two CELLS each from CELL f on, one behind another as by set(): how many came.");
        CoilWheels x = CHECK.told("signs 0 0 0 0;");
        x.sheet(0, 1, 40);
        lay(x, 0, new int[] {0, 1, 1, 2, 2, 3, 0, 2, 3, 1});
        CHECK.due("read(0, 1, 2, 2)", x.read(0, 1, 2, 2), 2);
        signs(x, 0, 2, 3, 0);
        CHECK.due("torn()", x.torn(), 0);
        // Two CELLS each from any CELL on.
        CHECK.due("read(0, 1, 1, 2)", x.read(0, 1, 1, 2), 2);
        signs(x, 0, 1, 2, 0);
        // The last two CELLS of a row of forty.
        x.lay(0, 38, 3);
        x.lay(0, 39, 2);
        CHECK.due("read(0, 1, 38, 1)", x.read(0, 1, 38, 1), 1);
        signs(x, 0, 1, 2, 2);
        CHECK.due("torn() then", x.torn(), 0);
    }

    private static void readOneBehindAnother() {
        CHECK.says(38, "one behind another as by set(): how many came.");
        CoilWheels x = CHECK.told("signs 0 0 0 0;");
        x.sheet(0, 2, 10);
        lay(x, 0, new int[] {0, 1, 1, 2, 2, 3, 0, 2, 3, 1});
        CHECK.due("read(0, 2, 0, 5): the later ones stay", x.read(0, 2, 0, 5), 5);
        signs(x, 2, 2, 3, 1);
        CHECK.due("rule(1): as many as there were", x.rule(1), 4);
        // The last of sixteen SIGNS, and each thing that it can be.
        CoilWheels full = CHECK.told("signs 0 0 0 0 0 0 0 0 0 0 0 0 0 0 0 1;");
        for (int v = 3; v >= 0; v--) {
            full.sheet(0, 0, 2);
            lay(full, 0, new int[] {15, v});
            CHECK.due("read of SIGN 15", full.read(0, 0, 0, 1), 1);
            CHECK.due("sign(15)", full.sign(15), v);
        }
    }

    /** Where nothing is read, the machine finds nothing. */
    private static void readOfNone() {
        CHECK.says(38, "n (0 to 20) times");
        CoilWheels x = CHECK.told("signs 3;");
        x.sheet(0, 0, 1);
        torn(x, "half a pair", x.read(0, 0, 0, 1), 0, 2);
        torn(x, "none of nothing", x.read(1, 0, 0, 0), 0, 0);
        torn(x, "half a pair", x.read(0, 0, 0, 1), 0, 2);
        torn(x, "none of another lane", x.read(0, 1, 0, 0), 0, 0);
        torn(x, "half a pair", x.read(0, 0, 0, 1), 0, 2);
        torn(x, "none from a wild index", x.read(0, 0, -7, 0), 0, 0);
        torn(x, "none from a wild index", x.read(0, 0, Integer.MAX_VALUE, 0), 0, 0);
        CHECK.due("sign(0)", x.sign(0), 3);
    }

    private static void readOfTwenty() {
        CHECK.says(38, "n (0 to 20) times which SIGN, what it is to be are read");
        CoilWheels x = CHECK.told("signs 0 0;");
        x.sheet(3, 1, 40);
        x.lay(3, 38, 1);
        x.lay(3, 39, 3);
        torn(x, "twenty of forty CELLS", x.read(3, 1, 0, 20), 20, 0);
        signs(x, 0, 3);
        torn(x, "twenty from the second CELL", x.read(3, 1, 1, 20), 19, 2);
        x.sheet(3, 1, 39);
        torn(x, "twenty of a CELL too few", x.read(3, 1, 0, 20), 19, 2);
    }

    private static void readTorn() {
        CHECK.says(38, "What the machine refuses: those that were whole ahead came (its FAULT is asked by torn()).");
        CoilWheels x = CHECK.told("signs 0 0 0;");
        torn(x, "nothing", x.read(3, 2, 0, 1), 0, 1);
        torn(x, "nothing by a wild index", x.read(3, 2, -5, 1), 0, 1);
        x.sheet(3, 2, 5);
        lay(x, 3, new int[] {0, 1, 1, 1, 2});
        torn(x, "another lane", x.read(3, 0, 0, 2), 0, 3);
        torn(x, "another lane by a wild index", x.read(3, 1, -1, 2), 0, 3);
        torn(x, "below the row", x.read(3, 2, -1, 2), 0, 2);
        torn(x, "two below the row", x.read(3, 2, -2, 2), 0, 2);
        torn(x, "far below the row", x.read(3, 2, Integer.MIN_VALUE, 20), 0, 2);
        torn(x, "behind the row", x.read(3, 2, 5, 1), 0, 2);
        torn(x, "far behind the row", x.read(3, 2, Integer.MAX_VALUE, 20), 0, 2);
        torn(x, "far behind the row, too", x.read(3, 2, Integer.MAX_VALUE - 1, 20), 0, 2);
        torn(x, "half a pair", x.read(3, 2, 4, 1), 0, 2);
        signs(x, 0, 0, 0);
        torn(x, "two ahead of half a pair", x.read(3, 2, 0, 3), 2, 2);
        signs(x, 1, 1, 0);
        torn(x, "none torn", x.read(3, 2, 0, 2), 2, 0);
        x.sheet(3, 2, 4);
        lay(x, 3, new int[] {0, 2, 1, 3});
        torn(x, "two ahead of no pair", x.read(3, 2, 0, 20), 2, 2);
        signs(x, 2, 3, 0);
        x.sheet(3, 2, 0);
        torn(x, "an empty row", x.read(3, 2, 0, 1), 0, 2);
    }

    private static void readIsBad() {
        CHECK.says(38, "BAD: k, lane, n;");
        CoilWheels x = CHECK.told("signs 0 0 0;");
        for (int k = 0; k < 4; k++) {
            x.sheet(k, 0, 40);
        }
        CHECK.bounds("read(?, 0, 0, 1)", 0, 3, k -> x.read(k, 0, 0, 1));
        CHECK.bounds("read(0, ?, 0, 1)", 0, 2, lane -> x.read(0, lane, 0, 1));
        CHECK.bounds("read(0, 0, 0, ?)", 0, 20, n -> x.read(0, 0, 0, n));
        CHECK.bounds("read(?, 0, 0, 1) of nothing", 0, 3, k -> new CoilWheels().read(k, 0, 0, 1));
        CHECK.bounds("read(?, 1, -1, 1): BAD fits first", 0, 3, k -> x.read(k, 1, -1, 1));
        for (int f : new int[] {-1, 40, Integer.MIN_VALUE, Integer.MAX_VALUE}) {
            CHECK.due("read(0, 0, " + f + ", 1): f is never BAD", x.read(0, 0, f, 1), 0);
        }
        x.read(0, 0, 0, 21);
        x.read(4, 0, 0, 1);
        x.read(0, 3, 0, 1);
        CHECK.due("torn(): what is BAD leaves it", x.torn(), 2);
    }

    private static void readRefused() {
        CHECK.says(38, "-20 less i: the i-th, whole, is refused by set(): then none came;");
        CoilWheels x = CHECK.told("signs 0 0 0;");
        x.sheet(0, 0, 7);
        lay(x, 0, new int[] {0, 1, 3, 1, 1, 4, 0});
        x.read(1, 0, 0, 1);
        String before = Check.stateOf(x);
        CHECK.due("read(0, 0, 2, 1)", x.read(0, 0, 2, 1), -20);
        CHECK.stays("read(0, 0, 2, 1)", before, x);
        CHECK.due("read(0, 0, 0, 2): no such SIGN", x.read(0, 0, 0, 2), -21);
        signs(x, 0, 0, 0);
        x.lay(0, 2, 2);
        CHECK.due("read(0, 0, 0, 3): 4 is none", x.read(0, 0, 0, 3), -22);
        signs(x, 0, 0, 0);
        x.lay(0, 5, -1);
        CHECK.due("read(0, 0, 0, 3): -1 is none", x.read(0, 0, 0, 3), -22);
        x.lay(0, 5, 3);
        x.lay(0, 4, -1);
        CHECK.due("read(0, 0, 0, 3): SIGN -1 is none", x.read(0, 0, 0, 3), -22);
        signs(x, 0, 0, 0);
        CHECK.due("torn(): what is refused leaves it", x.torn(), 1);
        x.lay(0, 4, 2);
        CHECK.due("read(0, 0, 0, 3)", x.read(0, 0, 0, 3), 3);
        signs(x, 1, 0, 3);
        // The twentieth of twenty.
        x.sheet(2, 2, 40);
        x.lay(2, 38, 3);
        CHECK.due("read(2, 2, 0, 20)", x.read(2, 2, 0, 20), -39);
        signs(x, 1, 0, 3);
        CHECK.due("read(2, 2, 0, 19)", x.read(2, 2, 0, 19), 19);
        signs(x, 0, 0, 3);
        CoilWheels none = new CoilWheels();
        none.sheet(0, 0, 2);
        CHECK.due("no SIGNS: read(0, 0, 0, 1)", none.read(0, 0, 0, 1), -20);
    }

    private static void firstMet() {
        CHECK.says(38, "the i-th, whole, is refused by set(): then none came; the first met.");
        CoilWheels x = CHECK.told("signs 0 0;");
        x.sheet(0, 0, 5);
        // Refused ahead of what is torn; half a pair is not whole, whatever its first CELL is.
        lay(x, 0, new int[] {0, 1, 2, 1, 9});
        CHECK.due("read: refused ahead of what is torn", x.read(0, 0, 0, 3), -21);
        CHECK.due("read: the second alone, to be 9", x.read(0, 0, 1, 2), -21);
        CHECK.due("read: the first of those that are refused", x.read(0, 0, 2, 2), -20);
        signs(x, 0, 0);
        CHECK.due("torn(): not of what is refused", x.torn(), 0);
        x.lay(0, 2, 1);
        torn(x, "half a pair that no set() would take", x.read(0, 0, 0, 3), 2, 2);
        signs(x, 1, 1);
        // Torn ahead of all: what stands in the row is not looked at.
        torn(x, "torn at once", x.read(0, 1, 0, 3), 0, 3);
    }

    private static void torn() {
        CHECK.says(39, "The FAULT of the latest read() that came to an end; 0.");
        CoilWheels x = CHECK.told("signs 0;");
        CHECK.due("torn() of none", x.torn(), 0);
        torn(x, "NULL", x.read(0, 0, 0, 1), 0, 1);
        x.sheet(0, 0, 2);
        torn(x, "CAST", x.read(0, 2, 0, 1), 0, 3);
        torn(x, "INDEX", x.read(0, 0, 1, 1), 0, 2);
        CHECK.due("torn() again", x.torn(), 2);
        // What is BAD, what set() refuses, other calls and their FAULTS leave it.
        x.read(4, 0, 0, 1);
        x.read(0, 0, 0, 21);
        x.lay(0, 0, 1);
        CHECK.due("read refused", x.read(0, 0, 0, 1), -20);
        x.lay(1, 0, 0);
        x.lay(0, 2, 0);
        x.sheet(0, 0, -1);
        x.keep(0);
        x.back(0);
        Check.tell(x, "!");
        CHECK.due("torn() stays", x.torn(), 2);
        x.text();
        CHECK.due("torn() stays behind a text", x.torn(), 2);
        x.add(0);
        x.lay(0, 0, 0);
        torn(x, "no FAULT", x.read(0, 0, 0, 1), 1, 0);
    }

    private static void lay(CoilWheels x, int k, int[] cells) {
        for (int i = 0; i < cells.length; i++) {
            CHECK.due("lay(" + k + ", " + i + ", " + cells[i] + ")", x.lay(k, i, cells[i]), 1);
        }
    }

    private static void torn(CoilWheels x, String what, int came, int wantCame, int wantTorn) {
        CHECK.due("read: " + what, came, wantCame);
        CHECK.due("torn(): " + what, x.torn(), wantTorn);
    }

    private static void signs(CoilWheels x, int... want) {
        for (int i = 0; i < want.length; i++) {
            CHECK.due("sign(" + i + ")", x.sign(i), want[i]);
        }
    }
}
