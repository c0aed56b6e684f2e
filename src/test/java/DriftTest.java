/** Promise 33: drift. */
public final class DriftTest {
    private static final Check CHECK = new Check();
    private static final int[] STEPS = {0, 1, -1, 2};

    public static void main(String[] args) {
        firstSigns();
        seedsWrapAround();
        lastBitsOfEachSign();
        byItself();
        everyDoesNotMatter();
        driftIsBad();
        driftIsState();
        CHECK.finish();
    }

    private static void firstSigns() {
        CHECK.says(33, "By itself, n TICKS (1 to 200) by a seed: ahead of each the seed becomes seed times 1103515245 and 12345; "
            + "bits 16 to 30 of it are got: got by 4 (down) modulo 4 is done as a SIGN in that TICK (whatever EVERY is): "
            + "ALL LOST in the end (what 0), by how many places ROTORS move (1).");
        // Reckoned by hand of the sentence: how far the FIELD has gone, without signs, behind 1, 2, 3 .. TICKS.
        gone(0, 0, 2, 3, 4, 5, 7, 9, 11, 12, 13, 14, 16);
        gone(1, 1, 3, 3, 4, 5, 6, 6, 7, 8, 9, 11, 13);
        gone(7, 2, 4, 5, 5, 5, 6, 6, 8, 8, 8, 10, 10);
        gone(-1, 1, 2, 3, 5, 6, 6, 7, 9, 9, 11, 13, 14);
        // FIELD 95, 105, 109 behind 200, so that so many TURNS are lost by what has no grip.
        CHECK.row("drift(0, 200, ?)", what -> CHECK.told("plain 0 0;").drift(0, 200, what), 12, 0);
        CHECK.row("drift(1, 200, ?)", what -> CHECK.told("plain 0 0;").drift(1, 200, what), 13, 0);
        CHECK.row("drift(-1, 200, ?)", what -> CHECK.told("plain 0 0;").drift(-1, 200, what), 14, 0);
        CHECK.due("drift(7, 200, 1)", CHECK.told("quick 3 0;").drift(7, 200, 1), 214);
    }

    private static void gone(int seed, int... want) {
        CoilWheels x = CHECK.told("quick 3 0;signs 1;");
        for (int n = 1; n <= want.length; n++) {
            CHECK.due("drift(" + seed + ", " + n + ", 1)", x.drift(seed, n, 1), want[n - 1]);
            CHECK.due("drift(" + seed + ", " + n + ", 0)", x.drift(seed, n, 0), 0);
        }
    }

    /** A ROTOR without grip stays at 0, so that ALL LOST tells the FIELD; one by one it moves if it is followed. */
    private static void seedsWrapAround() {
        CHECK.says(33, "ahead of each the seed becomes seed times 1103515245 and 12345; bits 16 to 30 of it are got:");
        int[] seeds = {0, 1, 7, -1, 123456789, -123456789, Integer.MIN_VALUE, Integer.MIN_VALUE + 1, Integer.MAX_VALUE};
        for (int seed : seeds) {
            CoilWheels x = CHECK.told("plain 0 0;signs 1;");
            CoilWheels quick = CHECK.told("quick 3 0;signs 1;");
            for (int n = 1; n <= 200; n += n < 20 ? 1 : 20) {
                String call = "drift(" + seed + ", " + n + ", ";
                CHECK.due(call + "0)", x.drift(seed, n, 0), lostBehind(fieldBehind(seed, n)));
                CHECK.due(call + "1)", x.drift(seed, n, 1), 0);
                CHECK.due(call + "0) of a quick one", quick.drift(seed, n, 0), 0);
                CHECK.due(call + "1) of a quick one", quick.drift(seed, n, 1), wayBehind(seed, n));
            }
        }
        // Bit 31 is got never, nor does it come down.
        for (int n = 1; n <= 200; n += 20) {
            CoilWheels x = CHECK.told("plain 2 3;heavy 3 1;");
            CHECK.due("drift(MAX, n, 0)", x.drift(Integer.MAX_VALUE, n, 0), x.drift(-1, n, 0));
            CHECK.due("drift(MIN, n, 1)", x.drift(Integer.MIN_VALUE, n, 1), x.drift(0, n, 1));
        }
    }

    /** The first and the last number that lead to each SIGN, and so by how many places a quick ROTOR moves. */
    private static void lastBitsOfEachSign() {
        CHECK.says(33, "bits 16 to 30 of it are got: got by 4 (down) modulo 4 is done as a SIGN in that TICK");
        int[][] becomes = {{0, 0}, {0x3ffff, 0}, {0x40000, 1}, {0x7ffff, 1}, {0x80000, 1}, {0xbffff, 1}, {0xc0000, 2}, {0xfffff, 2},
            {0x100000, 0}, {0x7fffffff, 2}, {0x80000000, 0}, {0x8003ffff, 0}, {0x80040000, 1}, {0xffffffff, 2}};
        CoilWheels x = CHECK.told("quick 3 0;");
        CoilWheels back = CHECK.told("plain 0 4;");
        for (int[] b : becomes) {
            CHECK.due("drift by a seed that becomes " + b[0], x.drift(seedAheadOf(b[0]), 1, 1), b[1]);
            // A TURN back: on, it is lost no more; back, it is.
            boolean goesOn = b[1] > 0 && (b[0] & 0xc0000) != 0x80000;
            CHECK.due("drift by a seed that becomes " + b[0], back.drift(seedAheadOf(b[0]), 1, 0), goesOn ? 0 : 1);
        }
    }

    /** The one seed that becomes this by 1103515245 and 12345, bit by bit from the lowest on. */
    private static int seedAheadOf(int wanted) {
        int seed = 0;
        for (int bit = 0; bit < 32; bit++) {
            int off = seed * 1103515245 + 12345 ^ wanted;
            seed |= off & 1 << bit;
        }
        return seed;
    }

    private static void byItself() {
        CHECK.says(33, "By itself, n TICKS (1 to 200) by a seed:");
        CoilWheels x = CHECK.run("plain 2 3;heavy 3 1;signs 3 1;every 2;", 3);
        x.see(2, 0, 3);
        String before = Check.stateOf(x);
        int once = x.drift(5, 200, 1);
        CHECK.due("drift(5, 200, 1) again", x.drift(5, 200, 1), once);
        CHECK.stays("drift", before, x);
        // It begins with all as it is: FIELD 4 is a hold off a TURN lost, and seed 1 leads on at first.
        CoilWheels near = CHECK.run("plain 0 0;signs 1;", 4);
        CHECK.due("near: drift(1, 1, 0)", near.drift(1, 1, 0), 1);
        CHECK.due("near: drift(0, 1, 0)", near.drift(0, 1, 0), 0);
        // At the last TICK, too.
        CoilWheels last = CHECK.told("quick 3 0;");
        Check.runTo(last, 9999);
        CHECK.due("last: drift(7, 200, 1)", last.drift(7, 200, 1), 214);
    }

    private static void everyDoesNotMatter() {
        CHECK.says(33, "is done as a SIGN in that TICK (whatever EVERY is):");
        CoilWheels x = CHECK.run("plain 2 3;heavy 3 1;signs 3 1;every 9;", 1);
        CoilWheels y = CHECK.told("plain 2 3;heavy 3 1;");
        y.add(3);
        y.ticks(1);
        y.cut(0);
        for (int seed = 0; seed < 20; seed++) {
            CHECK.due("drift(" + seed + ", 150, 0)", x.drift(seed, 150, 0), y.drift(seed, 150, 0));
            CHECK.due("drift(" + seed + ", 150, 1)", x.drift(seed, 150, 1), y.drift(seed, 150, 1));
        }
    }

    private static void driftIsBad() {
        CHECK.says(33, "BAD;");
        CoilWheels x = CHECK.told("plain 2 3;");
        CHECK.bounds("drift(1, ?, 0)", 1, 200, n -> x.drift(1, n, 0));
        CHECK.bounds("drift(1, ?, 1)", 1, 200, n -> x.drift(1, n, 1));
        CHECK.bounds("drift(1, 1, ?)", 0, 1, what -> x.drift(1, 1, what));
        CHECK.bounds("drift(1, ?, 0) of none: BAD fits first", 1, 200, n -> new CoilWheels().drift(1, n, 0));
        CHECK.bounds("drift(1, 1, ?) of none: BAD fits first", 0, 1, what -> new CoilWheels().drift(1, 1, what));
        for (int seed : Check.EXTREMES) {
            CHECK.due("drift(" + seed + ", 0, 0)", x.drift(seed, 0, 0), Check.BAD);
        }
    }

    private static void driftIsState() {
        CHECK.says(33, "STATE: there are no ROTORS.");
        CoilWheels x = new CoilWheels();
        CHECK.row("drift(1, 1, ?)", what -> x.drift(1, 1, what), Check.STATE, Check.STATE, Check.BAD);
        x.add(1);
        CHECK.row("drift(1, 200, ?)", what -> x.drift(1, 200, what), Check.STATE, Check.STATE, Check.BAD);
        Check.tell(x, "stiff 0 0;");
        CHECK.row("drift(0, 1, ?) of one", what -> x.drift(0, 1, what), 0, 0, Check.BAD);
        x.text();
        CHECK.row("drift(0, 1, ?) of none any more", what -> x.drift(0, 1, what), Check.STATE, Check.STATE, Check.BAD);
    }

    private static int signBehind(int seed, int n) {
        long state = seed & 0xffffffffL;
        for (int t = 0; t < n; t++) {
            state = (state * 1103515245L + 12345L) & 0xffffffffL;
        }
        return (int) (state / 65536 % 32768) / 4 % 4;
    }

    private static int fieldBehind(int seed, int n) {
        int field = 0;
        for (int t = 1; t <= n; t++) {
            field += STEPS[signBehind(seed, t)];
        }
        return field;
    }

    private static int wayBehind(int seed, int n) {
        int way = 0;
        for (int t = 1; t <= n; t++) {
            way += Math.abs(STEPS[signBehind(seed, t)]);
        }
        return way;
    }

    private static int lostBehind(int field) {
        int off = Math.floorMod(field, 8) > 4 ? Math.floorMod(field, 8) - 8 : Math.floorMod(field, 8);
        return Math.abs(field - off) / 8;
    }
}
