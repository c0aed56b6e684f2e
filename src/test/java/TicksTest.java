/** Promises 15 to 18: ticks, runs, ahead, when; what a TICK does stands in TermsTest, and for each KIND here, at length. */
public final class TicksTest {
    private static final Check CHECK = new Check();

    public static void main(String[] args) {
        plain();
        quick();
        heavy();
        stiff();
        ticks();
        ticksSumUp();
        ticksAreBad();
        ticksAreFull();
        runs();
        runsSlip();
        runsAreBad();
        ahead();
        aheadIsBad();
        when();
        whenIsBadOrNone();
        CHECK.finish();
    }

    private static void plain() {
        CHECK.says(Check.TERMS, "plain 1 place to that side;");
        CoilWheels x = CHECK.told("plain 3 0;signs 3;");
        // FIELD 2, 4, 6 (OFF 4: it slips), 8 (OFF -2), 10, 12, 14, 16 (OFF 4 again).
        follows(x, new int[] {1, 2, 2, 1, 2, 3, 4, 4}, new int[] {1, 1, 0, -1, 1, 1, 1, 0});
        CHECK.due("rotor(0, 4)", x.rotor(0, 4), 14);
        CHECK.due("rotor(0, 5)", x.rotor(0, 5), 100001);
        CoilWheels weak = CHECK.told("plain 0 0;signs 1;");
        follows(weak, new int[] {0, 0, 0, 0, 0}, new int[] {0, 0, 0, 0, 0});
        CoilWheels one = CHECK.told("plain 1 0;signs 1 2 2 0;");
        follows(one, new int[] {1, 0, -1, -1, 0}, new int[] {1, -1, -1, 0, 1});
    }

    private static void quick() {
        CHECK.says(Check.TERMS, "quick as a plain one, twice, if OFF is more than 1 without sign;");
        CoilWheels x = CHECK.told("quick 3 0;signs 3;");
        follows(x, new int[] {2, 4, 6, 8}, new int[] {1, 1, 1, 1});
        CoilWheels one = CHECK.told("quick 3 0;signs 1 2 2 0;");
        follows(one, new int[] {1, 0, -1, -1}, new int[] {1, -1, -1, 0});
        CoilWheels far = CHECK.told("quick 3 3;signs 0;");
        follows(far, new int[] {1, 0, 0}, new int[] {-1, -1, 0});
        CoilWheels two = CHECK.told("quick 1 2;signs 0;");
        follows(two, new int[] {2, 2}, new int[] {0, 0});
    }

    private static void heavy() {
        CHECK.says(Check.TERMS, "heavy as a plain one, if its WAY is that side, else not;");
        CoilWheels x = CHECK.told("heavy 3 0;signs 1 1 0 2 2 2;");
        // FIELD 1, 2, 2, 1, 0, -1: set going, moved, moved, set going back, moved, moved.
        follows(x, new int[] {0, 1, 2, 2, 1, 0}, new int[] {1, 1, 1, -1, -1, -1});
        CoilWheels still = CHECK.told("heavy 3 0;signs 1 0 0 1;");
        follows(still, new int[] {0, 1, 1, 1}, new int[] {1, 1, 0, 1});
        CoilWheels slipping = CHECK.told("heavy 1 0;signs 1 1 2;");
        follows(slipping, new int[] {0, 0, 0, 0}, new int[] {1, 0, 1, 0});
    }

    private static void stiff() {
        CHECK.says(Check.TERMS, "stiff as a heavy one, but not, if OFF is 1 without sign.");
        CoilWheels x = CHECK.told("stiff 3 0;signs 1 0 1 0 1 0;");
        // FIELD 1, 1, 2, 2, 3, 3: OFF 1 never moves it and takes its way.
        follows(x, new int[] {0, 0, 0, 1, 2, 2}, new int[] {0, 0, 1, 1, 1, 0});
        CoilWheels back = CHECK.told("stiff 3 3;signs 0;");
        follows(back, new int[] {3, 2, 1, 1}, new int[] {-1, -1, -1, 0});
        CoilWheels other = CHECK.told("stiff 3 2;signs 0 3 3;");
        // FIELD 0 (set going back), 2 (OFF 0), 4 (set going on).
        follows(other, new int[] {2, 2, 2}, new int[] {-1, 0, 1});
    }

    private static void ticks() {
        CHECK.says(15, "n TICKS (0 to 100):");
        CoilWheels x = CHECK.told("plain 3 0;signs 1;");
        CHECK.due("ticks(0)", x.ticks(0), 0);
        CHECK.row("rule(?) behind none", x::rule, 1, 1, 0, 1, 100000);
        CHECK.due("ticks(1)", x.ticks(1), 1);
        CHECK.row("rule(?) behind one", x::rule, 1, 1, 1, 1, 100001);
        CHECK.due("ticks(100)", x.ticks(100), 100);
        CHECK.row("rule(?) behind 101", x::rule, 1, 1, 101, 1, 100101);
        CHECK.due("ticks(0) then", x.ticks(0), 0);
        CHECK.due("rotor(0, 3): none of them is done", x.rotor(0, 3), 11);
        CHECK.due("ticks(100) of nothing", new CoilWheels().ticks(100), 0);
    }

    private static void ticksSumUp() {
        CHECK.says(15, "by how many places ROTORS move in them, without signs, summed.");
        // On and back: plain and quick move once a TICK, heavy is set going and stands, stiff stays.
        CoilWheels x = CHECK.told("plain 3 0;quick 3 0;heavy 3 0;stiff 3 0;signs 1 2;");
        CHECK.due("ticks(2)", x.ticks(2), 4);
        CHECK.due("ticks(100)", x.ticks(100), 200);
        CHECK.due("rotor(0, 2): where it was", x.rotor(0, 2), 100000);
        CHECK.due("four quick ones, two places each", CHECK.told(
            "quick 3 0;quick 3 0;quick 3 0;quick 3 0;signs 3;").ticks(100), 800);
        CHECK.due("back alone", CHECK.told("plain 1 0;signs 2;").ticks(100), 100);
    }

    private static void ticksAreBad() {
        CHECK.says(15, "BAD;");
        CHECK.bounds("ticks(?)", 0, 100, n -> new CoilWheels().ticks(n));
        CHECK.bounds("ticks(?), told", 0, 100, n -> CHECK.told("plain 1 0;signs 2;").ticks(n));
    }

    private static void ticksAreFull() {
        CHECK.says(15, "FULL: TICK would be 10000 or more.");
        CoilWheels x = CHECK.run("plain 3 0;quick 3 0;heavy 3 0;stiff 3 0;signs 1 2;", 2);
        for (int i = 0; i < 99; i++) {
            CHECK.due("ticks(100)", x.ticks(100), 200);
        }
        x.keep(0);
        String before = Check.stateOf(x);
        CHECK.due("ticks(98) to 10000", x.ticks(98), Check.FULL);
        CHECK.due("ticks(99) to 10001", x.ticks(99), Check.FULL);
        CHECK.due("ticks(101): BAD fits first", x.ticks(101), Check.BAD);
        CHECK.stays("ticks refused", before, x);
        CHECK.due("ticks(97) to 9999", x.ticks(97), 194);
        CHECK.due("rule(2) at its last", x.rule(2), 9999);
        CHECK.due("ticks(1)", x.ticks(1), Check.FULL);
        CHECK.due("ticks(100)", x.ticks(100), Check.FULL);
        CHECK.due("ticks(-1): BAD fits first", x.ticks(-1), Check.BAD);
        CHECK.due("ticks(0) at the last", x.ticks(0), 0);
        CHECK.due("runs(200, 0) goes on", x.runs(200, 0), 400);
        CHECK.due("back(0)", x.back(0), 9902);
        CHECK.due("ticks(97) again", x.ticks(97), 194);
        x.text();
        CHECK.due("ticks(100) of a new text", x.ticks(100), 0);
    }

    private static void runs() {
        CHECK.says(16, "BY TICKS, n of them (0 to 200): by how many places ROTORS move, as by ticks() (what 0), "
            + "100000 more than FIELD then (1), ALL LOST then (2), on how many of them any SLIPS (when the FIELD has gone; 3).");
        CoilWheels x = CHECK.run("plain 3 0;plain 1 0;signs 3;every 2;", 1);
        String before = Check.stateOf(x);
        // FIELD 2 at first: the first at 1, the second slips at 0. Then FIELD 2, 4, 4, 6, 6, 8:
        // the first moves to 2, 3, 4, 5, 6, 7; the second slips but with OFF 0 behind 8.
        int[] moved = {0, 1, 2, 3, 4, 5, 6};
        int[] field = {2, 2, 4, 4, 6, 6, 8};
        int[] lost = {0, 0, 0, 0, 1, 1, 1};
        int[] slips = {0, 1, 2, 3, 4, 5, 5};
        for (int i = 0; i < moved.length; i++) {
            int n = i;
            CHECK.row("runs(" + n + ", ?)", what -> x.runs(n, what), moved[n], 100000 + field[n], lost[n], slips[n]);
        }
        CHECK.due("runs(200, 1)", x.runs(200, 1), 100202);
        CHECK.stays("runs", before, x);
        CHECK.row("runs(200, ?) of nothing", what -> new CoilWheels().runs(200, what), 0, 100000, 0, 0);
        CHECK.row("runs(0, ?) of what slips", what -> CHECK.told("plain 0 1;").runs(0, what), 0, 100000, 0, 0);
        CHECK.row("runs(200, ?) back", what -> CHECK.told("plain 0 0;signs 2;").runs(200, what), 0, 99800, 25, 175);
        CHECK.row("runs(200, ?) of four quick ones", what -> CHECK.told(
            "quick 3 0;quick 3 0;quick 3 0;quick 3 0;signs 3;").runs(200, what), 1600, 100400, 0, 0);
    }

    private static void runsSlip() {
        CHECK.says(16, "on how many of them any SLIPS (when the FIELD has gone; 3).");
        // OFF 2 when the FIELD has gone, 1 when it has moved, too: each counts once, whoever slips.
        CHECK.due("runs(1, 3): slips when the FIELD has gone", CHECK.told("plain 1 0;signs 3;").runs(1, 3), 1);
        CHECK.due("runs(1, 3): slips no more", CHECK.told("plain 0 7;signs 2;").runs(1, 3), 0);
        CHECK.due("runs(1, 3) of two that slip", CHECK.told("plain 0 1;plain 0 2;").runs(1, 3), 1);
        CHECK.due("runs(1, 3) of the last alone", CHECK.told("plain 0 0;plain 0 0;plain 0 0;plain 0 1;").runs(1, 3), 1);
        // It moves out of its grip never; OFF 3 held by GRIP 3 does not slip.
        CHECK.due("runs(1, 3) by OFF 3", CHECK.told("plain 3 5;").runs(1, 3), 0);
        CHECK.due("runs(200, 3) of all", CHECK.told("plain 3 4;").runs(200, 3), 200);
        CHECK.due("runs(200, 3) of none", CHECK.told("plain 1 0;signs 1;").runs(200, 3), 0);
    }

    private static void runsAreBad() {
        CHECK.says(16, "BAD.");
        CoilWheels x = CHECK.told("plain 3 0;signs 3;");
        for (int i = 0; i <= 3; i++) {
            int what = i;
            CHECK.bounds("runs(?, " + what + ")", 0, 200, n -> x.runs(n, what));
        }
        CHECK.bounds("runs(0, ?)", 0, 3, what -> x.runs(0, what));
        CHECK.bounds("runs(200, ?)", 0, 3, what -> x.runs(200, what));
        CHECK.bounds("runs(?, 0) of nothing", 0, 200, n -> new CoilWheels().runs(n, 0));
    }

    private static void ahead() {
        CHECK.says(17, "BY TICKS, n of them (0 to 200): 100000 more than the place of a ROTOR then (what 0), "
            + "100000 more than LOST (1).");
        CoilWheels x = CHECK.told("plain 3 0;plain 0 1;signs 2;");
        String before = Check.stateOf(x);
        for (int n = 0; n <= 200; n += 40) {
            CHECK.due("ahead(0, n, 0)", x.ahead(0, n, 0), 100000 - n);
            CHECK.due("ahead(0, n, 1)", x.ahead(0, n, 1), 100000);
            CHECK.due("ahead(1, n, 0)", x.ahead(1, n, 0), 100001);
            CHECK.due("ahead(1, n, 1)", x.ahead(1, n, 1), 100000 - n / 8);
        }
        // FIELD -3 by place 1 is OFF 4 and LOST -1 already, -2 is OFF -3.
        CHECK.due("ahead(1, 2, 1)", x.ahead(1, 2, 1), 100000);
        CHECK.due("ahead(1, 3, 1)", x.ahead(1, 3, 1), 99999);
        CHECK.stays("ahead", before, x);
        CoilWheels on = CHECK.told("plain 0 0;signs 3;");
        CHECK.due("on: ahead(0, 2, 1)", on.ahead(0, 2, 1), 100000);
        CHECK.due("on: ahead(0, 3, 1)", on.ahead(0, 3, 1), 100001);
        CHECK.due("on: ahead(0, 200, 1)", on.ahead(0, 200, 1), 100050);
    }

    private static void aheadIsBad() {
        CHECK.says(17, "BAD.");
        CoilWheels x = CHECK.told("plain 3 0;plain 0 1;signs 2;");
        CHECK.bounds("ahead(?, 0, 0)", 0, 1, r -> x.ahead(r, 0, 0));
        CHECK.bounds("ahead(?, 200, 1)", 0, 1, r -> x.ahead(r, 200, 1));
        CHECK.bounds("ahead(0, ?, 0)", 0, 200, n -> x.ahead(0, n, 0));
        CHECK.bounds("ahead(1, ?, 1)", 0, 200, n -> x.ahead(1, n, 1));
        CHECK.bounds("ahead(0, 0, ?)", 0, 1, what -> x.ahead(0, 0, what));
        CHECK.bounds("ahead(?, 1, 0) of four", 0, 3,
            r -> CHECK.told("plain 1 0;plain 1 0;plain 1 0;plain 1 0;").ahead(r, 1, 0));
        CHECK.takesNone("ahead(?, 1, 0) of none", r -> new CoilWheels().ahead(r, 1, 0));
    }

    private static void when() {
        CHECK.says(18, "BY TICKS: behind how many (0 to 200) LOST of a ROTOR is other than now first.");
        CoilWheels x = CHECK.told("plain 0 1;plain 3 0;plain 0 5;signs 2;");
        String before = Check.stateOf(x);
        CHECK.due("when(0)", x.when(0), 3);
        CHECK.due("when(2)", x.when(2), 7);
        CHECK.stays("when", before, x);
        // FIELD 5 is OFF -3, a TURN lost; the third SIGN leads there at TICK 18, so behind 19.
        CoilWheels third = CHECK.told("plain 0 0;signs 3 3 1;every 9;");
        CHECK.due("third: when(0)", third.when(0), 19);
        third.turn(0, 0);
        CHECK.due("third: when(0), lost before", third.when(0), 19);
        // Other than now, though it is nothing then: OFF 4 of a TURN back, on to OFF -3.
        CHECK.due("when(0) from LOST -1 to 0", CHECK.told("plain 0 4;signs 1;").when(0), 1);
        // First, though it is as now again behind: FIELD 5 and 4.
        CHECK.due("when(0), there and back", CHECK.told("plain 0 0;signs 3 3 1 2 0 0 0;").when(0), 3);
        CHECK.due("when(0) at once", CHECK.told("plain 0 4;signs 3;").when(0), 1);
    }

    private static void whenIsBadOrNone() {
        CHECK.says(18, "BAD; NONE: behind none.");
        CoilWheels x = CHECK.told("plain 0 1;plain 3 0;plain 0 5;signs 2;");
        CHECK.due("when(1)", x.when(1), Check.NONE);
        CHECK.bounds("when(?) of three", 0, 2, x::when);
        CHECK.bounds("when(?) of four", 0, 3, CHECK.told("plain 1 0;plain 1 0;plain 1 0;plain 1 0;")::when);
        CHECK.takesNone("when(?) of none", new CoilWheels()::when);
        CHECK.due("when(0) without SIGNS", CHECK.told("plain 0 3;").when(0), Check.NONE);
        // From OFF 3 the second round's SIGN loses a TURN, at TICK 279: behind 201 from TICK 79.
        CoilWheels late = CHECK.run("plain 0 5;signs 0 0 0 0 0 0 0 0 0 0 0 0 0 0 0 1;every 9;", 79);
        CHECK.due("late: when(0) at TICK 79", late.when(0), Check.NONE);
        late.ticks(1);
        CHECK.due("late: when(0) at TICK 80", late.when(0), 200);
    }

    /** Place and WAY of ROTOR 0 behind one TICK after another, and by how many places it moved. */
    private static void follows(CoilWheels x, int[] places, int[] ways) {
        int last = x.rotor(0, 2);
        for (int i = 0; i < places.length; i++) {
            int moved = x.ticks(1);
            String call = "KIND " + x.rotor(0, 0) + " behind TICK " + (i + 1);
            CHECK.due(call + ": moved", moved, Math.abs(x.rotor(0, 2) - last));
            CHECK.due(call + ": place", x.rotor(0, 2), 100000 + places[i]);
            CHECK.due(call + ": way", x.rotor(0, 3), 10 + ways[i]);
            last = x.rotor(0, 2);
        }
    }
}
