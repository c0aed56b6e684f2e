/** Promise 33: drift. */
public final class DriftTest {
    private static final Check CHECK = new Check();
    private static final int[] STEPS = {0, 1, -1, 2};

    public static void main(String[] args) {
        fieldAlone();
        everyDoesNotMatter();
        refused();
        CHECK.finish();
    }

    /** A ROTOR without grip stays at 0, so that ALL LOST tells the FIELD; one by one it moves if it is followed. */
    private static void fieldAlone() {
        int[] seeds = {0, 1, 7, -1, 123456789, Integer.MIN_VALUE, Integer.MAX_VALUE};
        for (int seed : seeds) {
            CoilWheels x = CHECK.told("plain 0 0;signs 1;");
            CoilWheels quick = CHECK.told("quick 3 0;signs 1;");
            for (int n = 1; n <= 200; n += n < 20 ? 1 : 20) {
                String call = "drift(" + seed + ", " + n + ", ";
                CHECK.due(call + "0)", x.drift(seed, n, 0), lostBehind(fieldBehind(seed, n)));
                CHECK.due(call + "1)", x.drift(seed, n, 1), 0);
                CHECK.due(call + "0) of a quick one", quick.drift(seed, n, 0), 0);
                CHECK.due(call + "1) of a quick one", quick.drift(seed, n, 1), wayBehind(seed, n));
            }
            CHECK.due("rule(2) stays", x.rule(2), 0);
            CHECK.due("rule(4) stays", x.rule(4), 100000);
            CHECK.due("rotor(0, 2) stays", quick.rotor(0, 2), 100000);
        }
    }

    private static void everyDoesNotMatter() {
        CoilWheels x = CHECK.told("plain 2 3;heavy 3 1;signs 3 1;every 9;");
        CoilWheels y = CHECK.told("plain 2 3;heavy 3 1;");
        x.ticks(1);
        y.add(3);
        y.ticks(1);
        y.cut(0);
        for (int seed = 0; seed < 20; seed++) {
            CHECK.due("drift(" + seed + ", 150, 0)", x.drift(seed, 150, 0), y.drift(seed, 150, 0));
            CHECK.due("drift(" + seed + ", 150, 1)", x.drift(seed, 150, 1), y.drift(seed, 150, 1));
        }
    }

    private static void refused() {
        CoilWheels x = new CoilWheels();
        CHECK.due("drift(1, 0, 0)", x.drift(1, 0, 0), Check.BAD);
        CHECK.due("drift(1, 201, 0)", x.drift(1, 201, 0), Check.BAD);
        CHECK.due("drift(1, 1, 2)", x.drift(1, 1, 2), Check.BAD);
        CHECK.due("drift(1, 1, -1)", x.drift(1, 1, -1), Check.BAD);
        for (int n : Check.EXTREMES) {
            CHECK.due("drift(1, " + n + ", 0)", x.drift(1, n, 0), Check.BAD);
        }
        CHECK.due("drift(1, 1, 0)", x.drift(1, 1, 0), Check.STATE);
        x.add(1);
        CHECK.due("drift(1, 200, 1)", x.drift(1, 200, 1), Check.STATE);
    }

    private static int signBehind(int seed, int n) {
        long state = seed & 0xffffffffL;
        for (int t = 0; t < n; t++) {
            state = (state * 1103515245L + 12345L) & 0xffffffffL;
        }
        return (int) (state / 65536 % 32768) / 4 % 4;
    }

    private static int fieldBehind(int seed, int n) {
        int field = 0;
        for (int t = 1; t <= n; t++) {
            field += STEPS[signBehind(seed, t)];
        }
        return field;
    }

    private static int wayBehind(int seed, int n) {
        int way = 0;
        for (int t = 1; t <= n; t++) {
            way += Math.abs(STEPS[signBehind(seed, t)]);
        }
        return way;
    }

    private static int lostBehind(int field) {
        int off = Math.floorMod(field, 8) > 4 ? Math.floorMod(field, 8) - 8 : Math.floorMod(field, 8);
        return Math.abs(field - off) / 8;
    }
}
