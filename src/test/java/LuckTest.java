/** Promises 25 and 26: luck, mean. */
public final class LuckTest {
    private static final Check CHECK = new Check();

    public static void main(String[] args) {
        oneTick();
        waysAreTaken();
        fieldGoes();
        lowestTerms();
        manyTicks();
        wrongNumbers();
        CHECK.finish();
    }

    private static void oneTick() {
        CoilWheels x = CHECK.told("plain 1 0;signs 1;");
        String before = Check.stateOf(x);
        luck(x, 3, 0, 0, 1, 1);
        luck(x, 3, 0, 1, 7, 10);
        luck(x, 0, 0, 1, 1, 1);
        luck(x, 10, 0, 1, 0, 1);
        mean(x, 3, 0, 0, 1);
        mean(x, 3, 1, 7, 10);
        mean(x, 0, 1, 1, 1);
        mean(x, 10, 1, 0, 1);
        CHECK.stays("luck and mean", before, x);
        CoilWheels none = new CoilWheels();
        mean(none, 3, 5, 0, 1);
    }

    private static void waysAreTaken() {
        // Two TICKS without failure, one behind another, take a heavy one home: 49/100, then 147/1000 more.
        CoilWheels x = CHECK.told("heavy 1 0;plain 1 0;signs 1 0 0;");
        luck(x, 3, 0, 1, 0, 1);
        luck(x, 3, 0, 2, 49, 100);
        luck(x, 3, 0, 3, 637, 1000);
        luck(x, 3, 1, 2, 91, 100);
        luck(x, 3, 1, 3, 973, 1000);
        // Both of them summed.
        mean(x, 3, 2, 140, 100);
        mean(x, 3, 3, 1610, 1000);
    }

    private static void fieldGoes() {
        // The FIELD goes on and back whether coils fail or not: only one failure of two leaves it off.
        CoilWheels x = CHECK.told("plain 3 0;signs 1 2;");
        luck(x, 10, 0, 2, 1, 1);
        luck(x, 5, 0, 2, 3, 4);
        // FIELD 8 is a TURN on, OFF 0.
        CoilWheels far = CHECK.told("plain 0 0;signs 3;");
        luck(far, 7, 0, 4, 1, 1);
        luck(far, 7, 0, 3, 0, 1);
        // As TICK stands: the next SIGN is a hold.
        CoilWheels later = CHECK.told("plain 1 0;signs 1 0;");
        later.ticks(1);
        luck(later, 4, 0, 1, 1, 1);
        luck(later, 4, 0, 2, 3, 5);
    }

    private static void lowestTerms() {
        CoilWheels x = CHECK.told("quick 3 0;signs 3;");
        luck(x, 5, 0, 1, 1, 2);
        luck(x, 8, 0, 1, 1, 5);
        luck(x, 6, 0, 1, 2, 5);
        mean(x, 5, 1, 1, 1);
        mean(x, 4, 1, 6, 5);
    }

    private static void manyTicks() {
        // A plain one off by 1 is home but for eight failures.
        CoilWheels x = CHECK.told("plain 1 1;");
        luck(x, 3, 0, 8, 100000000L - 6561, 100000000L);
        mean(x, 3, 8, 100000000L - 6561, 100000000L);
        // Four quick ones that go two places a TICK without failures.
        CoilWheels four = CHECK.told("quick 3 0;quick 3 0;quick 3 0;quick 3 0;signs 3;");
        mean(four, 0, 8, 64, 1);
    }

    private static void wrongNumbers() {
        CoilWheels x = CHECK.told("plain 1 0;signs 1;");
        int[][] bad = {{-1, 0, 1, 0}, {11, 0, 1, 0}, {11, 0, 2, 0}, {-1, 0, 2, 0}, {3, -1, 1, 0}, {3, 1, 1, 0},
            {3, 0, -1, 0}, {3, 0, 9, 0}, {3, 0, 1, -1}, {3, 0, 1, 2}};
        for (int[] a : bad) {
            CHECK.due("luck(" + a[0] + ", " + a[1] + ", " + a[2] + ", " + a[3] + ")",
                x.luck(a[0], a[1], a[2], a[3]), Check.BAD);
            if (a[1] == 0) {
                CHECK.due("mean(" + a[0] + ", " + a[2] + ", " + a[3] + ")", x.mean(a[0], a[2], a[3]), Check.BAD);
            }
        }
    }

    private static void luck(CoilWheels x, int v, int r, int n, long above, long below) {
        String call = "luck(" + v + ", " + r + ", " + n + ", ";
        long divisor = divisor(above, below);
        CHECK.due(call + "0)", x.luck(v, r, n, 0), above / divisor);
        CHECK.due(call + "1)", x.luck(v, r, n, 1), below / divisor);
    }

    private static void mean(CoilWheels x, int v, int n, long above, long below) {
        String call = "mean(" + v + ", " + n + ", ";
        long divisor = divisor(above, below);
        CHECK.due(call + "0)", x.mean(v, n, 0), above / divisor);
        CHECK.due(call + "1)", x.mean(v, n, 1), below / divisor);
    }

    private static long divisor(long a, long b) {
        return b == 0 ? a : divisor(b, a % b);
    }
}
