/** Promises 27 to 32: see, forget, kinds, grips, starts, ask. */
public final class SeenTest {
    private static final Check CHECK = new Check();

    public static void main(String[] args) {
        see();
        forget();
        kinds();
        grips();
        starts();
        allIsAsSeen();
        fromNowOn();
        ask();
        wrongRotors();
        CHECK.finish();
    }

    private static void see() {
        CoilWheels x = CHECK.told("plain 3 0;plain 3 0;");
        CHECK.due("see(-1, 0, 0)", x.see(-1, 0, 0), Check.BAD);
        CHECK.due("see(41, 0, 0)", x.see(41, 0, 0), Check.BAD);
        CHECK.due("see(0, 2, 0)", x.see(0, 2, 0), Check.BAD);
        CHECK.due("see(0, -1, 0)", x.see(0, -1, 0), Check.BAD);
        CHECK.due("see(0, 0, 8)", x.see(0, 0, 8), Check.BAD);
        CHECK.due("see(0, 0, -1)", x.see(0, 0, -1), Check.BAD);
        CHECK.due("count(0)", x.count(0), 0);
        for (int n = 1; n <= 6; n++) {
            CHECK.due("see as " + n, x.see(8 * n - 8, n % 2, n % 2 == 0 ? 7 : 0), n);
        }
        CHECK.due("see(0, 0, 0) as 7", x.see(0, 0, 0), Check.FULL);
        CHECK.due("see(0, 0, 8) as 7", x.see(0, 0, 8), Check.BAD);
        CHECK.due("count(0) then", x.count(0), 6);
        CHECK.due("kinds(0) by six", x.kinds(0), 0);
    }

    private static void forget() {
        CoilWheels x = CHECK.told("plain 3 0;");
        CHECK.due("forget(0) of none", x.forget(0), 0);
        CHECK.due("forget(1) of none", x.forget(1), Check.BAD);
        x.see(0, 0, 0);
        x.see(0, 0, 1);
        x.see(0, 0, 2);
        CHECK.due("forget(4)", x.forget(4), Check.BAD);
        for (int n : Check.EXTREMES) {
            CHECK.due("forget(" + n + ")", x.forget(n), Check.BAD);
        }
        CHECK.due("forget(3)", x.forget(3), 3);
        CHECK.due("starts(0) by all", x.starts(0), 0);
        CHECK.due("forget(1)", x.forget(1), 3);
        CHECK.due("starts(0) by the first", x.starts(0), 1);
        CHECK.due("forget(2)", x.forget(2), Check.BAD);
        CHECK.due("forget(0)", x.forget(0), 1);
        CHECK.due("count(0)", x.count(0), 0);
        CHECK.due("starts(0) by none", x.starts(0), 255);
    }

    private static void kinds() {
        // Behind 1 TICK plain and quick are at 1; behind 2 heavy is at 1 and stiff at 0.
        CoilWheels x = CHECK.told("plain 3 0;signs 1;");
        CHECK.due("kinds(0) by none", x.kinds(0), 15);
        x.see(1, 0, 0);
        CHECK.due("kinds(0)", x.kinds(0), 12);
        x.see(2, 0, 1);
        CHECK.due("kinds(0) by two", x.kinds(0), 4);
        x.see(40, 0, 39 % 8);
        CHECK.due("kinds(0) by three", x.kinds(0), 4);
        x.see(40, 0, 0);
        CHECK.due("kinds(0) by four", x.kinds(0), 0);
        CHECK.due("rotor(0, 0) stays", x.rotor(0, 0), 0);
        // Below nothing: place -1 leaves 7.
        CoilWheels back = CHECK.told("stiff 3 0;signs 2;");
        back.see(1, 0, 7);
        CHECK.due("back: kinds(0)", back.kinds(0), 3);
    }

    private static void grips() {
        CoilWheels x = CHECK.told("plain 0 0;signs 3;");
        CHECK.due("grips(0) by none", x.grips(0), 15);
        x.see(1, 0, 1);
        CHECK.due("grips(0)", x.grips(0), 12);
        x.see(2, 0, 2);
        CHECK.due("grips(0) by two", x.grips(0), 8);
        x.forget(0);
        x.see(1, 0, 0);
        CHECK.due("grips(0) by another", x.grips(0), 3);
        CHECK.due("rotor(0, 1) stays", x.rotor(0, 1), 0);
    }

    private static void starts() {
        CoilWheels x = CHECK.told("plain 2 6;signs 0;");
        // From 6 on: OFF 2, 1, 0, -1, -2 come nearer by one; -3, 4, 3 stay.
        int[] ends = {7, 0, 0, 0, 1, 3, 4, 5};
        CHECK.due("starts(0) by none", x.starts(0), 255);
        for (int p = 0; p < 8; p++) {
            int bits = 0;
            for (int v = 0; v < 8; v++) {
                bits |= ends[v] == p ? 1 << v : 0;
            }
            x.forget(0);
            x.see(1, 0, p);
            CHECK.due("starts(0) for " + p, x.starts(0), bits);
        }
        CHECK.due("rotor(0, 2) stays", x.rotor(0, 2), 100006);
        // Set going on, a heavy one moves on at once, but not back.
        CoilWheels heavy = CHECK.told("heavy 3 0;signs 1 0;");
        heavy.ticks(1);
        heavy.see(1, 0, 1);
        CHECK.due("heavy: starts(0)", heavy.starts(0), 3);
        heavy.turn(0, 8);
        CHECK.due("heavy: starts(0) by WAY 0", heavy.starts(0), 2);
    }

    private static void allIsAsSeen() {
        CoilWheels x = CHECK.told("plain 3 0;plain 3 4;signs 1;");
        x.see(1, 0, 1);
        // The second has OFF -3 behind FIELD 1 and comes to 3.
        x.see(1, 1, 3);
        CHECK.due("kinds(0)", x.kinds(0), 3);
        CHECK.due("kinds(1)", x.kinds(1), 1);
        CHECK.due("grips(1)", x.grips(1), 8);
        x.see(0, 1, 5);
        CHECK.due("kinds(0): the other is not as seen", x.kinds(0), 0);
        CHECK.due("grips(0): the other is not as seen", x.grips(0), 0);
        CHECK.due("starts(0): the other is not as seen", x.starts(0), 0);
        CHECK.due("ask(0, 0): the other is not as seen", x.ask(0, 0), Check.NONE);
    }

    private static void fromNowOn() {
        CoilWheels x = CHECK.told("plain 3 0;signs 1;");
        x.see(1, 0, 2);
        CHECK.due("grips(0)", x.grips(0), 0);
        x.ticks(1);
        CHECK.due("grips(0) a TICK on", x.grips(0), 14);
        CHECK.due("count(0) a TICK on", x.count(0), 1);
    }

    private static void ask() {
        CoilWheels x = CHECK.told("plain 2 6;signs 0;");
        CHECK.due("ask(0, 0)", x.ask(0, 0), 0);
        CHECK.due("ask(0, 1)", x.ask(0, 1), 1);
        x.see(1, 0, 0);
        CHECK.due("ask(0, 0) of three", x.ask(0, 0), 0);
        CHECK.due("ask(0, 1) of three", x.ask(0, 1), 1);
        x.see(0, 0, 7);
        CHECK.due("ask(0, 0) of one", x.ask(0, 0), Check.NONE);
        CHECK.due("ask(0, 1) of one", x.ask(0, 1), Check.NONE);
        CHECK.due("ask(0, 2)", x.ask(0, 2), Check.BAD);
        CHECK.due("ask(0, -1)", x.ask(0, -1), Check.BAD);
        CHECK.due("count(0)", x.count(0), 2);
        CoilWheels heavy = CHECK.told("heavy 3 0;signs 1 0;");
        heavy.ticks(1);
        heavy.see(1, 0, 1);
        CHECK.due("heavy: ask(0, 0) of two", heavy.ask(0, 0), 0);
        CHECK.due("heavy: ask(0, 1) of two", heavy.ask(0, 1), 1);
    }

    private static void wrongRotors() {
        CoilWheels x = CHECK.told("plain 2 6;");
        for (int r : new int[] {Integer.MIN_VALUE, -1, 1, 4, Integer.MAX_VALUE}) {
            CHECK.due("kinds(" + r + ")", x.kinds(r), Check.BAD);
            CHECK.due("grips(" + r + ")", x.grips(r), Check.BAD);
            CHECK.due("starts(" + r + ")", x.starts(r), Check.BAD);
            CHECK.due("ask(" + r + ", 0)", x.ask(r, 0), Check.BAD);
        }
    }
}
