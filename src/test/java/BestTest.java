/** Promises 19 to 24: slow, need, kind, swap, ease, begin. */
public final class BestTest {
    private static final Check CHECK = new Check();

    public static void main(String[] args) {
        slow();
        need();
        kind();
        swap();
        ease();
        begin();
        CHECK.finish();
    }

    private static void slow() {
        // Two places a TICK lose a TURN at FIELD 8; two places each second TICK are followed.
        CoilWheels x = CHECK.told("plain 3 0;plain 0 0;signs 3;");
        String before = Check.stateOf(x);
        CHECK.due("slow(0, 0)", x.slow(0, 0), 1);
        CHECK.due("slow(0, 3)", x.slow(0, 3), 1);
        CHECK.due("slow(0, 4)", x.slow(0, 4), 2);
        CHECK.due("slow(0, 200)", x.slow(0, 200), 2);
        // Without grip the third SIGN loses a TURN, wherever the second was enough.
        CHECK.due("slow(1, 2)", x.slow(1, 2), 1);
        CHECK.due("slow(1, 3)", x.slow(1, 3), 2);
        CHECK.due("slow(1, 18)", x.slow(1, 18), 9);
        CHECK.due("slow(1, 19)", x.slow(1, 19), Check.NONE);
        badRotorAndTicks("slow", x.slow(2, 0), x.slow(-1, 0), x.slow(0, 201), x.slow(0, -1));
        CHECK.stays("slow", before, x);
        // What is lost already may stay so.
        x.turn(1, 0);
        CHECK.due("slow(1, 18), lost before", x.slow(1, 18), 9);
    }

    private static void need() {
        CoilWheels x = CHECK.told("plain 2 0;heavy 3 0;signs 1;");
        String before = Check.stateOf(x);
        CHECK.due("need(0, 0)", x.need(0, 0), 0);
        CHECK.due("need(0, 4)", x.need(0, 4), 0);
        CHECK.due("need(0, 5)", x.need(0, 5), 1);
        CHECK.due("need(0, 200)", x.need(0, 200), 1);
        CHECK.due("need(1, 200)", x.need(1, 200), 2);
        badRotorAndTicks("need", x.need(2, 0), x.need(-1, 0), x.need(0, 201), x.need(0, -1));
        CHECK.stays("need", before, x);
        x.set(0, 3);
        CHECK.due("need(0, 2) by two on", x.need(0, 2), 0);
        CHECK.due("need(1, 4) by two on", x.need(1, 4), Check.NONE);
        x.turn(1, 0);
        CHECK.due("need(1, 2), lost before", x.need(1, 2), 0);
        // OFF 3 is held by the greatest grip alone, else the FIELD goes on to OFF 4 and -3.
        CoilWheels far = CHECK.told("plain 0 5;signs 0 1 1;");
        CHECK.due("far: need(0, 3)", far.need(0, 3), 3);
    }

    private static void kind() {
        CoilWheels x = CHECK.told("stiff 3 0;plain 0 0;signs 3;");
        String before = Check.stateOf(x);
        CHECK.due("kind(0, 0, 0)", x.kind(0, 0, 0), 0);
        CHECK.due("kind(0, 0, 1)", x.kind(0, 0, 1), 0);
        // Behind 4, FIELD 8: a quick one alone is there; the other has lost one in any case.
        CHECK.due("kind(0, 4, 0)", x.kind(0, 4, 0), 1);
        CHECK.due("kind(0, 4, 1)", x.kind(0, 4, 1), 1);
        CHECK.due("kind(1, 4, 0)", x.kind(1, 4, 0), 0);
        CHECK.due("kind(1, 4, 1)", x.kind(1, 4, 1), 2);
        badRotorAndTicks("kind", x.kind(2, 0, 0), x.kind(-1, 0, 0), x.kind(0, 201, 0), x.kind(0, -1, 0));
        CHECK.due("kind(0, 0, 2)", x.kind(0, 0, 2), Check.BAD);
        CHECK.due("kind(0, 0, -1)", x.kind(0, 0, -1), Check.BAD);
        CHECK.stays("kind", before, x);
        // A TURN back at first: all but the stiff one go on, and stay a TURN back, while it stays at 7.
        CoilWheels stiff = CHECK.told("plain 3 7;signs 0 3 3;");
        CHECK.due("stiff: kind(0, 3, 0)", stiff.kind(0, 3, 0), 3);
        CHECK.due("stiff: kind(0, 3, 1)", stiff.kind(0, 3, 1), 0);
    }

    private static void swap() {
        // Behind 5, FIELD 5 has lost a TURN; with the last sign earlier, FIELD 3 has not.
        CoilWheels x = CHECK.told("plain 0 0;signs 1 1 1 1 1 2;");
        String before = Check.stateOf(x);
        CHECK.due("swap(5, 0)", x.swap(5, 0), 5);
        CHECK.due("swap(5, 1)", x.swap(5, 1), 0);
        CHECK.due("swap(4, 0): nothing is lost", x.swap(4, 0), Check.NONE);
        CHECK.due("swap(4, 1): nothing is lost", x.swap(4, 1), Check.NONE);
        CHECK.due("swap(0, 0)", x.swap(0, 0), Check.NONE);
        badTicksAndWhat("swap", x.swap(201, 0), x.swap(-1, 0), x.swap(0, 2), x.swap(0, -1));
        CHECK.stays("swap", before, x);
        CoilWheels later = CHECK.told("plain 0 0;signs 2 1 1 1 1 1 1 2;");
        CHECK.due("later: swap(7, 0)", later.swap(7, 0), 107);
        CHECK.due("later: swap(7, 1)", later.swap(7, 1), 0);
        // FIELD 13 behind 7 has lost two; 12 to 10, with a hold or a back earlier, have lost one.
        CoilWheels less = CHECK.told("plain 0 0;signs 1 3 3 3 3 3 3 0 2;");
        CHECK.due("less: runs(7, 2)", less.runs(7, 2), 2);
        CHECK.due("less: swap(7, 0)", less.swap(7, 0), 7);
        CHECK.due("less: swap(7, 1)", less.swap(7, 1), 1);
        CoilWheels none = CHECK.told("plain 0 0;");
        CHECK.due("no signs: swap(7, 0)", none.swap(7, 0), Check.NONE);
        // On first, FIELD 1 is OFF -3 and none lost; behind both SIGNS it is 0 in any case.
        CoilWheels two = CHECK.told("plain 0 4;signs 2 1;");
        CHECK.due("two: swap(1, 0)", two.swap(1, 0), 1);
        CHECK.due("two: swap(1, 1)", two.swap(1, 1), 0);
        CHECK.due("two: swap(2, 0)", two.swap(2, 0), Check.NONE);
        // A SIGN that was cut off is none to change with.
        CoilWheels cut = CHECK.told("plain 0 0;signs 1 1 1 1 1 2;");
        cut.cut(5);
        CHECK.due("cut: swap(5, 0)", cut.swap(5, 0), Check.NONE);
        CoilWheels full = CHECK.told("plain 0 0;signs 1 1 1 1 1 0 0 0 0 0 0 0 0 0 0 2;");
        CHECK.due("full: swap(15, 0)", full.swap(15, 0), 15);
        CHECK.due("full: swap(5, 0)", full.swap(5, 0), 5);
    }

    private static void ease() {
        // FIELD 6 behind 5: both have lost one; one place less spares the second, two spare both.
        CoilWheels x = CHECK.told("plain 0 0;plain 0 1;signs 1 1 1 3 1;");
        String before = Check.stateOf(x);
        CHECK.due("ease(5, 0)", x.ease(5, 0), 3);
        CHECK.due("ease(5, 1)", x.ease(5, 1), 0);
        CHECK.due("ease(4, 0): the first of several", x.ease(4, 0), 0);
        CHECK.due("ease(4, 1)", x.ease(4, 1), 0);
        CHECK.due("ease(3, 0): nothing is lost", x.ease(3, 0), Check.NONE);
        CHECK.due("ease(3, 1): nothing is lost", x.ease(3, 1), Check.NONE);
        CHECK.due("ease(0, 0)", x.ease(0, 0), Check.NONE);
        badTicksAndWhat("ease", x.ease(201, 0), x.ease(-1, 0), x.ease(0, 2), x.ease(0, -1));
        CHECK.stays("ease", before, x);
        CoilWheels one = CHECK.told("plain 0 0;plain 0 1;signs 0 1 1 1 1 2 1 1;");
        CHECK.due("one: ease(8, 0)", one.ease(8, 0), 1);
        CoilWheels full = CHECK.told("plain 0 0;signs 0 0 0 0 0 0 0 0 0 0 0 0 0 3 1 3;");
        CHECK.due("full: ease(16, 0)", full.ease(16, 0), 13);
        full.set(13, 1);
        full.set(14, 2);
        full.set(0, 3);
        full.set(1, 1);
        CHECK.due("full: runs(16, 1)", full.runs(16, 1), 100005);
        CHECK.due("full: ease(16, 0) then", full.ease(16, 0), 0);
        CoilWheels never = CHECK.told("plain 0 0;signs 3 3 3 1;");
        CHECK.due("never: ease(4, 0)", never.ease(4, 0), Check.NONE);
    }

    private static void begin() {
        CoilWheels x = CHECK.told("plain 0 0;plain 0 0;signs 1;");
        String before = Check.stateOf(x);
        CHECK.due("begin(0, 0, 0)", x.begin(0, 0, 0), 0);
        CHECK.due("begin(0, 4, 0)", x.begin(0, 4, 0), 0);
        CHECK.due("begin(0, 4, 1)", x.begin(0, 4, 1), 0);
        // FIELD 11 is 4 from place 7, and the other has lost one.
        CHECK.due("begin(0, 11, 0)", x.begin(0, 11, 0), 7);
        CHECK.due("begin(1, 11, 1)", x.begin(1, 11, 1), 1);
        CHECK.due("begin(0, 12, 0): none is better", x.begin(0, 12, 0), 0);
        CHECK.due("begin(0, 12, 1)", x.begin(0, 12, 1), 2);
        badRotorAndTicks("begin", x.begin(2, 0, 0), x.begin(-1, 0, 0), x.begin(0, 201, 0), x.begin(0, -1, 0));
        CHECK.due("begin(0, 0, 2)", x.begin(0, 0, 2), Check.BAD);
        CHECK.due("begin(0, 0, -1)", x.begin(0, 0, -1), Check.BAD);
        CHECK.stays("begin", before, x);
        wayStays();
    }

    private static void wayStays() {
        // Set going on by FIELD 1 and 2, it is at 1; FIELD 3, 5, 7 are then OFF 2, 3, 4 by its WAY
        // (places 2, 3), but would be OFF 2, 4, -2 without it.
        CoilWheels x = CHECK.told("heavy 3 0;signs 1 1 1 3 3;");
        x.ticks(2);
        CHECK.due("rotor(0, 3)", x.rotor(0, 3), 11);
        CHECK.due("begin(0, 3, 0)", x.begin(0, 3, 0), 0);
        CHECK.due("begin(0, 3, 1)", x.begin(0, 3, 1), 0);
        x.turn(0, 8);
        CHECK.due("begin(0, 3, 0) by WAY 0", x.begin(0, 3, 0), 1);
        CHECK.due("begin(0, 3, 1) by WAY 0", x.begin(0, 3, 1), 0);
    }

    private static void badRotorAndTicks(String call, int... answers) {
        String[] why = {"no such ROTOR", "ROTOR -1", "201 TICKS", "-1 TICKS"};
        for (int i = 0; i < why.length; i++) {
            CHECK.due(call + ": " + why[i], answers[i], Check.BAD);
        }
    }

    private static void badTicksAndWhat(String call, int... answers) {
        String[] why = {"201 TICKS", "-1 TICKS", "what 2", "what -1"};
        for (int i = 0; i < why.length; i++) {
            CHECK.due(call + ": " + why[i], answers[i], Check.BAD);
        }
    }
}
