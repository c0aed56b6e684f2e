/** Terms 1 and 2, promises 15 to 18: what a TICK does; ticks, runs, ahead, when. */
public final class TicksTest {
    private static final Check CHECK = new Check();

    public static void main(String[] args) {
        fieldIsLed();
        plain();
        quick();
        heavy();
        stiff();
        ticks();
        runs();
        ahead();
        when();
        CHECK.finish();
    }

    private static void fieldIsLed() {
        CoilWheels x = CHECK.told("signs 1 3 0 2 2;");
        field(x, 1, 3, 3, 2, 1, 2, 4, 4, 3, 2);
        CoilWheels slow = CHECK.told("signs 1 3 2;every 3;");
        field(slow, 1, 1, 1, 3, 3, 3, 2, 2, 2, 3);
        // TICK is 10 now: 10 by 2 leaves 2 by 3, 12 by 2 leaves 0; 7 divides 14, and 14 by 7 leaves 2.
        slow.every(2);
        field(slow, 2, 2, 3, 3);
        slow.every(7);
        field(slow, 2);
        slow.cut(0);
        field(slow, 2, 2);
        CHECK.due("rule(2)", slow.rule(2), 17);
        CoilWheels below = CHECK.told("plain 3 0;signs 2;");
        field(below, -1, -2, -3);
    }

    private static void plain() {
        CoilWheels x = CHECK.told("plain 3 0;signs 3;");
        // FIELD 2, 4, 6 (OFF 4: it slips), 8 (OFF -2), 10, 12, 14, 16 (OFF 4 again).
        follows(x, new int[] {1, 2, 2, 1, 2, 3, 4, 4}, new int[] {1, 1, 0, -1, 1, 1, 1, 0});
        CHECK.due("rotor(0, 4)", x.rotor(0, 4), 14);
        CHECK.due("rotor(0, 5)", x.rotor(0, 5), 100001);
        CoilWheels weak = CHECK.told("plain 0 0;signs 1;");
        follows(weak, new int[] {0, 0, 0, 0, 0}, new int[] {0, 0, 0, 0, 0});
        CoilWheels one = CHECK.told("plain 1 0;signs 1 2 2 0;");
        follows(one, new int[] {1, 0, -1, -1, 0}, new int[] {1, -1, -1, 0, 1});
    }

    private static void quick() {
        CoilWheels x = CHECK.told("quick 3 0;signs 3;");
        follows(x, new int[] {2, 4, 6, 8}, new int[] {1, 1, 1, 1});
        CoilWheels one = CHECK.told("quick 3 0;signs 1 2 2 0;");
        follows(one, new int[] {1, 0, -1, -1}, new int[] {1, -1, -1, 0});
        CoilWheels far = CHECK.told("quick 3 3;signs 0;");
        follows(far, new int[] {1, 0, 0}, new int[] {-1, -1, 0});
        CoilWheels two = CHECK.told("quick 1 2;signs 0;");
        follows(two, new int[] {2, 2}, new int[] {0, 0});
    }

    private static void heavy() {
        CoilWheels x = CHECK.told("heavy 3 0;signs 1 1 0 2 2 2;");
        // FIELD 1, 2, 2, 1, 0, -1: set going, moved, moved, set going back, moved, moved.
        follows(x, new int[] {0, 1, 2, 2, 1, 0}, new int[] {1, 1, 1, -1, -1, -1});
        CoilWheels still = CHECK.told("heavy 3 0;signs 1 0 0 1;");
        follows(still, new int[] {0, 1, 1, 1}, new int[] {1, 1, 0, 1});
        CoilWheels slipping = CHECK.told("heavy 1 0;signs 1 1 2;");
        follows(slipping, new int[] {0, 0, 0, 0}, new int[] {1, 0, 1, 0});
    }

    private static void stiff() {
        CoilWheels x = CHECK.told("stiff 3 0;signs 1 0 1 0 1 0;");
        // FIELD 1, 1, 2, 2, 3, 3: OFF 1 never moves it and takes its way.
        follows(x, new int[] {0, 0, 0, 1, 2, 2}, new int[] {0, 0, 1, 1, 1, 0});
        CoilWheels back = CHECK.told("stiff 3 3;signs 0;");
        follows(back, new int[] {3, 2, 1, 1}, new int[] {-1, -1, -1, 0});
        CoilWheels other = CHECK.told("stiff 3 2;signs 0 3 3;");
        // FIELD 0 (set going back), 2 (OFF 0), 4 (set going on).
        follows(other, new int[] {2, 2, 2}, new int[] {-1, 0, 1});
    }

    private static void ticks() {
        CoilWheels x = CHECK.told("plain 3 0;quick 3 0;heavy 3 0;stiff 3 0;signs 1 2;");
        CHECK.due("ticks(101)", x.ticks(101), Check.BAD);
        for (int n : Check.EXTREMES) {
            CHECK.due("ticks(" + n + ")", x.ticks(n), Check.BAD);
        }
        CHECK.due("ticks(0)", x.ticks(0), 0);
        CHECK.due("rule(2)", x.rule(2), 0);
        // On and back: plain and quick move once a TICK, heavy is set going and stands, stiff stays.
        CHECK.due("ticks(2)", x.ticks(2), 4);
        CHECK.due("rule(2) then", x.rule(2), 2);
        for (int i = 0; i < 99; i++) {
            CHECK.due("ticks(100)", x.ticks(100), 200);
        }
        String before = Check.stateOf(x);
        CHECK.due("ticks(98) to 10000", x.ticks(98), Check.FULL);
        CHECK.due("ticks(101) is bad first", x.ticks(101), Check.BAD);
        CHECK.stays("ticks refused", before, x);
        CHECK.due("ticks(97) to 9999", x.ticks(97), 194);
        CHECK.due("rule(2) at last", x.rule(2), 9999);
        CHECK.due("ticks(1)", x.ticks(1), Check.FULL);
        CHECK.due("ticks(0) at last", x.ticks(0), 0);
        CHECK.due("runs(200, 0) goes on", x.runs(200, 0), 400);
    }

    private static void runs() {
        CoilWheels x = CHECK.told("plain 3 0;plain 1 0;signs 3;every 2;");
        x.ticks(1);
        String before = Check.stateOf(x);
        // FIELD 2 at first: the first at 1, the second slips at 0. Then FIELD 2, 4, 4, 6, 6, 8:
        // the first moves to 2, 3, 4, 5, 6, 7; the second slips but with OFF 0 behind 8.
        int[] moved = {0, 1, 2, 3, 4, 5, 6};
        int[] field = {2, 2, 4, 4, 6, 6, 8};
        int[] lost = {0, 0, 0, 0, 1, 1, 1};
        int[] slips = {0, 1, 2, 3, 4, 5, 5};
        for (int n = 0; n < moved.length; n++) {
            CHECK.due("runs(" + n + ", 0)", x.runs(n, 0), moved[n]);
            CHECK.due("runs(" + n + ", 1)", x.runs(n, 1), 100000 + field[n]);
            CHECK.due("runs(" + n + ", 2)", x.runs(n, 2), lost[n]);
            CHECK.due("runs(" + n + ", 3)", x.runs(n, 3), slips[n]);
        }
        CHECK.due("runs(200, 1)", x.runs(200, 1), 100202);
        CHECK.due("runs(201, 0)", x.runs(201, 0), Check.BAD);
        for (int v : Check.EXTREMES) {
            CHECK.due("runs(" + v + ", 0)", x.runs(v, 0), Check.BAD);
            CHECK.due("runs(0, " + v + ")", x.runs(0, v), Check.BAD);
        }
        CHECK.due("runs(0, 4)", x.runs(0, 4), Check.BAD);
        CHECK.stays("runs", before, x);
    }

    private static void ahead() {
        CoilWheels x = CHECK.told("plain 3 0;plain 0 1;signs 2;");
        String before = Check.stateOf(x);
        for (int n = 0; n <= 200; n += 40) {
            CHECK.due("ahead(0, n, 0)", x.ahead(0, n, 0), 100000 - n);
            CHECK.due("ahead(0, n, 1)", x.ahead(0, n, 1), 100000);
            CHECK.due("ahead(1, n, 0)", x.ahead(1, n, 0), 100001);
            CHECK.due("ahead(1, n, 1)", x.ahead(1, n, 1), 100000 - n / 8);
        }
        // FIELD -3 by place 1 is OFF 4 and LOST -1 already, -2 is OFF -3.
        CHECK.due("ahead(1, 2, 1)", x.ahead(1, 2, 1), 100000);
        CHECK.due("ahead(1, 3, 1)", x.ahead(1, 3, 1), 99999);
        CHECK.due("ahead(2, 0, 0)", x.ahead(2, 0, 0), Check.BAD);
        CHECK.due("ahead(-1, 0, 0)", x.ahead(-1, 0, 0), Check.BAD);
        CHECK.due("ahead(0, 201, 0)", x.ahead(0, 201, 0), Check.BAD);
        CHECK.due("ahead(0, -1, 0)", x.ahead(0, -1, 0), Check.BAD);
        CHECK.due("ahead(0, 0, 2)", x.ahead(0, 0, 2), Check.BAD);
        CHECK.due("ahead(0, 0, -1)", x.ahead(0, 0, -1), Check.BAD);
        CHECK.stays("ahead", before, x);
    }

    private static void when() {
        CoilWheels x = CHECK.told("plain 0 1;plain 3 0;plain 0 5;signs 2;");
        String before = Check.stateOf(x);
        CHECK.due("when(0)", x.when(0), 3);
        CHECK.due("when(1)", x.when(1), Check.NONE);
        CHECK.due("when(2)", x.when(2), 7);
        CHECK.due("when(3)", x.when(3), Check.BAD);
        CHECK.due("when(-1)", x.when(-1), Check.BAD);
        CHECK.stays("when", before, x);
        // FIELD 5 is OFF -3, a TURN lost; the third SIGN leads there at TICK 18, so behind 19.
        CoilWheels third = CHECK.told("plain 0 0;signs 3 3 1;every 9;");
        CHECK.due("third: when(0)", third.when(0), 19);
        third.turn(0, 0);
        CHECK.due("third: when(0), lost before", third.when(0), 19);
        // From OFF 3 the second round's SIGN loses a TURN, at TICK 279: behind 201 from TICK 79.
        CoilWheels late = CHECK.told("plain 0 5;signs 0 0 0 0 0 0 0 0 0 0 0 0 0 0 0 1;every 9;");
        late.ticks(79);
        CHECK.due("late: when(0) at TICK 79", late.when(0), Check.NONE);
        late.ticks(1);
        CHECK.due("late: when(0) at TICK 80", late.when(0), 200);
    }

    /** FIELD behind one TICK after another. */
    private static void field(CoilWheels x, int... want) {
        for (int i = 0; i < want.length; i++) {
            x.ticks(1);
            CHECK.due("FIELD behind TICK " + (i + 1) + " of " + want.length, x.rule(4), 100000 + want[i]);
        }
    }

    /** Place and WAY of ROTOR 0 behind one TICK after another, and by how many places it moved. */
    private static void follows(CoilWheels x, int[] places, int[] ways) {
        int last = x.rotor(0, 2);
        for (int i = 0; i < places.length; i++) {
            int moved = x.ticks(1);
            String call = "KIND " + x.rotor(0, 0) + " behind TICK " + (i + 1);
            CHECK.due(call + ": moved", moved, Math.abs(x.rotor(0, 2) - last));
            CHECK.due(call + ": place", x.rotor(0, 2), 100000 + places[i]);
            CHECK.due(call + ": way", x.rotor(0, 3), 10 + ways[i]);
            last = x.rotor(0, 2);
        }
    }
}
