/** Promises 25 and 26: luck, mean. */
public final class LuckTest {
    private static final Check CHECK = new Check();
    private static final String FOUR = "quick 3 0;quick 3 0;quick 3 0;quick 3 0;signs 3;";

    public static void main(String[] args) {
        luckOfOneTick();
        waysAreTaken();
        fieldGoes();
        luckAtItsEnds();
        luckIsBad();
        meanOfOneTick();
        meanOfAll();
        meanIsBad();
        lowestTerms();
        CHECK.finish();
    }

    private static void luckOfOneTick() {
        CHECK.says(25, "In each of n TICKS (0 to 8) coils fail by v out of ten (0 to 10), by itself (FIELD goes, no ROTOR MOVES, "
            + "WAY of all is 0): that a ROTOR is OFF 0 behind them: 0, 1.");
        CoilWheels x = CHECK.told("plain 1 0;signs 1;");
        String before = Check.stateOf(x);
        for (int v = 0; v <= 10; v++) {
            luck(x, v, 0, 1, 10 - v, 10);
        }
        CHECK.stays("luck", before, x);
        // Each TICK by itself: home but for two, three failures one behind another.
        CoilWheels two = CHECK.told("plain 1 1;");
        luck(two, 3, 0, 2, 91, 100);
        luck(two, 3, 0, 3, 973, 1000);
    }

    private static void waysAreTaken() {
        CHECK.says(25, "no ROTOR MOVES, WAY of all is 0)");
        // Two TICKS without failure, one behind another, take a heavy one home: 49/100, then 147/1000 more.
        CoilWheels x = CHECK.told("heavy 1 0;plain 1 0;signs 1 0 0;");
        luck(x, 3, 0, 1, 0, 1);
        luck(x, 3, 0, 2, 49, 100);
        luck(x, 3, 0, 3, 637, 1000);
        luck(x, 3, 1, 2, 91, 100);
        luck(x, 3, 1, 3, 973, 1000);
        // Likewise back, where a WAY below 0 would do.
        CoilWheels back = CHECK.told("heavy 1 0;signs 2 0 0;");
        luck(back, 3, 0, 2, 49, 100);
        luck(back, 3, 0, 3, 637, 1000);
        // Of all: the last of four as the first.
        CoilWheels four = CHECK.told("plain 1 0;heavy 1 0;quick 1 0;heavy 1 0;signs 1 0 0;");
        luck(four, 3, 1, 3, 637, 1000);
        luck(four, 3, 3, 3, 637, 1000);
        // A WAY that it had before is taken, too: going, it is home at once, or in two more TICKS.
        CoilWheels going = CHECK.run("heavy 1 0;signs 1 0 0 0;", 1);
        luck(going, 3, 0, 1, 7, 10);
        luck(going, 3, 0, 2, 7, 10);
        luck(going, 3, 0, 3, 847, 1000);
    }

    private static void fieldGoes() {
        CHECK.says(25, "(FIELD goes,");
        // The FIELD goes on and back whether coils fail or not: only one failure of two leaves it off.
        CoilWheels x = CHECK.told("plain 3 0;signs 1 2;");
        luck(x, 10, 0, 2, 1, 1);
        luck(x, 5, 0, 2, 3, 4);
        // FIELD 8 is a TURN on, OFF 0; FIELD -8 a TURN back.
        CoilWheels far = CHECK.told("plain 0 0;signs 3;");
        luck(far, 7, 0, 4, 1, 1);
        luck(far, 7, 0, 3, 0, 1);
        luck(CHECK.told("plain 0 0;signs 2;"), 10, 0, 8, 1, 1);
        luck(CHECK.told("plain 0 0;signs 2;"), 10, 0, 7, 0, 1);
        // As TICK stands: the next SIGN is a hold.
        CoilWheels later = CHECK.run("plain 1 0;signs 1 0;", 1);
        luck(later, 4, 0, 1, 1, 1);
        luck(later, 4, 0, 2, 3, 5);
    }

    private static void luckAtItsEnds() {
        CHECK.says(25, "n TICKS (0 to 8) coils fail by v out of ten (0 to 10)");
        // None at all: OFF 0 now, or not.
        luck(CHECK.told("plain 1 0;signs 1;"), 3, 0, 0, 1, 1);
        luck(CHECK.told("plain 1 1;signs 1;"), 3, 0, 0, 0, 1);
        luck(CHECK.told("plain 1 0;signs 1;"), 0, 0, 0, 1, 1);
        luck(CHECK.told("plain 1 0;signs 1;"), 10, 0, 0, 1, 1);
        // Eight of them: a plain one off by 1 is home but for eight failures.
        CoilWheels x = CHECK.told("plain 1 1;");
        luck(x, 3, 0, 8, 100000000L - 6561, 100000000L);
        luck(x, 1, 0, 8, 99999999, 100000000L);
        luck(x, 9, 0, 8, 100000000L - 43046721, 100000000L);
        // Never and always.
        luck(x, 0, 0, 8, 1, 1);
        luck(x, 10, 0, 8, 0, 1);
    }

    private static void luckIsBad() {
        CHECK.says(25, "BAD.");
        CoilWheels x = CHECK.told("plain 1 0;signs 1;");
        for (int i = 0; i <= 1; i++) {
            int what = i;
            CHECK.bounds("luck(?, 0, 1, " + what + ")", 0, 10, v -> x.luck(v, 0, 1, what));
            CHECK.bounds("luck(?, 0, 2, " + what + ")", 0, 10, v -> x.luck(v, 0, 2, what));
            CHECK.bounds("luck(3, ?, 1, " + what + ")", 0, 0, r -> x.luck(3, r, 1, what));
            CHECK.bounds("luck(3, 0, ?, " + what + ")", 0, 8, n -> x.luck(3, 0, n, what));
        }
        CHECK.bounds("luck(3, 0, 1, ?)", 0, 1, what -> x.luck(3, 0, 1, what));
        CHECK.bounds("luck(3, ?, 1, 0) of four", 0, 3, r -> CHECK.told(FOUR).luck(3, r, 1, 0));
        CHECK.takesNone("luck(3, ?, 1, 0) of none", r -> new CoilWheels().luck(3, r, 1, 0));
    }

    private static void meanOfOneTick() {
        CHECK.says(26, "Likewise, the mean of by how many places ROTORS move in them: 0, 1.");
        CoilWheels x = CHECK.told("plain 1 0;signs 1;");
        String before = Check.stateOf(x);
        for (int v = 0; v <= 10; v++) {
            mean(x, v, 0, 0, 1);
            mean(x, v, 1, 10 - v, 10);
        }
        CHECK.stays("mean", before, x);
        mean(new CoilWheels(), 3, 5, 0, 1);
        mean(CHECK.told("signs 1;"), 0, 8, 0, 1);
        mean(CHECK.told("plain 1 0;"), 0, 8, 0, 1);
    }

    private static void meanOfAll() {
        CHECK.says(26, "by how many places ROTORS move in them");
        // A heavy one and a plain one, both summed; without signs, on and back.
        CoilWheels x = CHECK.told("heavy 1 0;plain 1 0;signs 1 0 0;");
        mean(x, 3, 2, 140, 100);
        mean(x, 3, 3, 1610, 1000);
        mean(CHECK.told("plain 3 0;signs 2;"), 0, 8, 8, 1);
        mean(CHECK.told("plain 3 0;signs 1 2;"), 0, 8, 8, 1);
        // Four quick ones that go two places a TICK without failures: as many as can be.
        mean(CHECK.told(FOUR), 0, 8, 64, 1);
        mean(CHECK.told(FOUR), 10, 8, 0, 1);
        CoilWheels eight = CHECK.told("plain 1 1;");
        mean(eight, 3, 8, 100000000L - 6561, 100000000L);
        mean(eight, 9, 8, 100000000L - 43046721, 100000000L);
    }

    private static void meanIsBad() {
        CHECK.says(26, "BAD.");
        CoilWheels x = CHECK.told("plain 1 0;signs 1;");
        for (int i = 0; i <= 1; i++) {
            int what = i;
            CHECK.bounds("mean(?, 1, " + what + ")", 0, 10, v -> x.mean(v, 1, what));
            CHECK.bounds("mean(?, 2, " + what + ")", 0, 10, v -> x.mean(v, 2, what));
            CHECK.bounds("mean(3, ?, " + what + ")", 0, 8, n -> x.mean(3, n, what));
            CHECK.bounds("mean(?, 8, " + what + ") of nothing", 0, 10, v -> new CoilWheels().mean(v, 8, what));
        }
        CHECK.bounds("mean(3, 1, ?)", 0, 1, what -> x.mean(3, 1, what));
    }

    private static void lowestTerms() {
        CHECK.says(Check.TERMS, "Fractions are in lowest terms, the denominator above 0 (0 is 0 by 1).");
        CoilWheels x = CHECK.told("quick 3 0;signs 3;");
        int[][] lowest = {{1, 1}, {9, 10}, {4, 5}, {7, 10}, {3, 5}, {1, 2}, {2, 5}, {3, 10}, {1, 5}, {1, 10}, {0, 1}};
        int[][] doubled = {{2, 1}, {9, 5}, {8, 5}, {7, 5}, {6, 5}, {1, 1}, {4, 5}, {3, 5}, {2, 5}, {1, 5}, {0, 1}};
        for (int i = 0; i <= 10; i++) {
            int v = i;
            CHECK.row("luck(" + v + ", 0, 1, ?)", what -> x.luck(v, 0, 1, what), lowest[v][0], lowest[v][1]);
            CHECK.row("mean(" + v + ", 1, ?)", what -> x.mean(v, 1, what), doubled[v][0], doubled[v][1]);
        }
        CHECK.row("luck(5, 0, 8, ?): 1 but for 1/256", what -> CHECK.told("plain 1 1;").luck(5, 0, 8, what), 255, 256);
        CHECK.row("luck(10, 0, 8, ?): 0 is 0 by 1", what -> CHECK.told("plain 1 1;").luck(10, 0, 8, what), 0, 1);
        CHECK.row("mean(10, 8, ?): 0 is 0 by 1", what -> CHECK.told("plain 1 1;").mean(10, 8, what), 0, 1);
    }

    private static void luck(CoilWheels x, int v, int r, int n, long above, long below) {
        long divisor = divisor(above, below);
        CHECK.row("luck(" + v + ", " + r + ", " + n + ", ?)", what -> x.luck(v, r, n, what), above / divisor, below / divisor);
    }

    private static void mean(CoilWheels x, int v, int n, long above, long below) {
        long divisor = divisor(above, below);
        CHECK.row("mean(" + v + ", " + n + ", ?)", what -> x.mean(v, n, what), above / divisor, below / divisor);
    }

    private static long divisor(long a, long b) {
        return b == 0 ? a : divisor(b, a % b);
    }
}
