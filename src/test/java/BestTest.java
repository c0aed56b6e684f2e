/** Promises 19 to 24: slow, need, kind, swap, ease, begin. */
public final class BestTest {
    private static final Check CHECK = new Check();
    private static final String FOUR = "plain 1 0;plain 1 0;plain 1 0;plain 1 0;";

    public static void main(String[] args) {
        slow();
        slowIsBadOrNone();
        need();
        needIsBadOrNone();
        kind();
        kindIsBad();
        swap();
        swapOfSeveral();
        swapIsBadOrNone();
        ease();
        easeIsBadOrNone();
        begin();
        beginWayStays();
        beginIsBad();
        CHECK.finish();
    }

    private static void slow() {
        CHECK.says(19, "The least EVERY by which LOST of a ROTOR behind n TICKS (0 to 200) is as now.");
        // Two places a TICK lose a TURN at FIELD 8; two places each second TICK are followed.
        CoilWheels x = CHECK.told("plain 3 0;plain 0 0;signs 3;");
        String before = Check.stateOf(x);
        CHECK.due("slow(0, 0)", x.slow(0, 0), 1);
        CHECK.due("slow(0, 3)", x.slow(0, 3), 1);
        CHECK.due("slow(0, 4)", x.slow(0, 4), 2);
        CHECK.due("slow(0, 200)", x.slow(0, 200), 2);
        // Without grip the third SIGN loses a TURN, wherever the second was enough.
        CHECK.due("slow(1, 0)", x.slow(1, 0), 1);
        CHECK.due("slow(1, 2)", x.slow(1, 2), 1);
        CHECK.due("slow(1, 3)", x.slow(1, 3), 2);
        CHECK.due("slow(1, 18)", x.slow(1, 18), 9);
        CHECK.stays("slow", before, x);
        // The least, though EVERY is more already, and what is lost already may stay so.
        x.every(9);
        CHECK.due("slow(1, 2) by EVERY 9", x.slow(1, 2), 1);
        x.turn(1, 0);
        CHECK.due("slow(1, 18), lost before", x.slow(1, 18), 9);
    }

    private static void slowIsBadOrNone() {
        CHECK.says(19, "BAD; NONE: by none.");
        CoilWheels x = CHECK.told("plain 3 0;plain 0 0;signs 3;");
        CHECK.due("slow(1, 19)", x.slow(1, 19), Check.NONE);
        CHECK.due("slow(1, 200)", x.slow(1, 200), Check.NONE);
        // LOST -1 now, 0 behind the first SIGN by any EVERY: not as now.
        CHECK.due("slow(0, 1) of what is lost no more", CHECK.told("plain 0 4;signs 1;").slow(0, 1), Check.NONE);
        CHECK.due("slow(0, 200) without SIGNS", CHECK.told("plain 0 4;").slow(0, 200), 1);
        CHECK.bounds("slow(?, 0)", 0, 1, r -> x.slow(r, 0));
        CHECK.bounds("slow(?, 200)", 0, 1, r -> x.slow(r, 200));
        CHECK.bounds("slow(0, ?)", 0, 200, n -> x.slow(0, n));
        CHECK.bounds("slow(1, ?): BAD fits first", 0, 200, n -> x.slow(1, n));
        CHECK.bounds("slow(?, 1) of four", 0, 3, r -> CHECK.told(FOUR).slow(r, 1));
        CHECK.takesNone("slow(?, 1) of none", r -> new CoilWheels().slow(r, 1));
    }

    private static void need() {
        CHECK.says(20, "The least GRIP of a ROTOR by which its LOST behind n TICKS (0 to 200) is as now.");
        CoilWheels x = CHECK.told("plain 2 0;heavy 3 0;signs 1;");
        String before = Check.stateOf(x);
        CHECK.due("need(0, 0)", x.need(0, 0), 0);
        CHECK.due("need(0, 4)", x.need(0, 4), 0);
        CHECK.due("need(0, 5)", x.need(0, 5), 1);
        CHECK.due("need(0, 200)", x.need(0, 200), 1);
        CHECK.due("need(1, 200)", x.need(1, 200), 2);
        CHECK.stays("need", before, x);
        x.set(0, 3);
        CHECK.due("need(0, 2) by two on", x.need(0, 2), 0);
        x.turn(1, 0);
        CHECK.due("need(1, 2), lost before", x.need(1, 2), 0);
        // OFF 3 is held by the greatest grip alone, else the FIELD goes on to OFF 4 and -3.
        CHECK.due("far: need(0, 3)", CHECK.told("plain 0 5;signs 0 1 1;").need(0, 3), 3);
    }

    private static void needIsBadOrNone() {
        CHECK.says(20, "BAD; NONE: by none.");
        CoilWheels x = CHECK.told("plain 2 0;heavy 3 0;signs 3;");
        String before = Check.stateOf(x);
        CHECK.due("need(1, 4)", x.need(1, 4), Check.NONE);
        CHECK.stays("need(1, 4)", before, x);
        // OFF 4 is held by no GRIP: a TURN back at first, it stays, and FIELD 1 is OFF -3, no TURN back any more.
        CHECK.due("need(0, 2) by OFF 4", CHECK.told("plain 0 4;signs 0 1;").need(0, 2), Check.NONE);
        CHECK.due("need(0, 1) of what is lost no more", CHECK.told("plain 0 4;signs 1;").need(0, 1), Check.NONE);
        CHECK.bounds("need(?, 0)", 0, 1, r -> x.need(r, 0));
        CHECK.bounds("need(?, 200)", 0, 1, r -> x.need(r, 200));
        CHECK.bounds("need(0, ?)", 0, 200, n -> x.need(0, n));
        CHECK.bounds("need(1, ?)", 0, 200, n -> x.need(1, n));
        CHECK.bounds("need(?, 1) of four", 0, 3, r -> CHECK.told(FOUR).need(r, 1));
        CHECK.takesNone("need(?, 1) of none", r -> new CoilWheels().need(r, 1));
    }

    private static void kind() {
        CHECK.says(21, "The KIND of a ROTOR by which ALL LOST is least behind n TICKS (0 to 200), "
            + "of several the first (what 0), how much (1).");
        CoilWheels x = CHECK.told("stiff 3 0;plain 0 0;signs 3;");
        String before = Check.stateOf(x);
        CHECK.row("kind(0, 0, ?)", what -> x.kind(0, 0, what), 0, 0);
        // Behind 4, FIELD 8: a quick one alone is there; the other has lost one in any case.
        CHECK.row("kind(0, 4, ?)", what -> x.kind(0, 4, what), 1, 1);
        CHECK.row("kind(1, 4, ?): the first of several", what -> x.kind(1, 4, what), 0, 2);
        CHECK.row("kind(0, 200, ?)", what -> x.kind(0, 200, what), 1, 50);
        CHECK.stays("kind", before, x);
        // The other stays of its KIND, and loses one, as a plain one would not.
        CHECK.row("other: kind(1, 5, ?)", what -> CHECK.told("heavy 1 0;stiff 3 0;signs 1;").kind(1, 5, what), 0, 1);
        CHECK.row("other: kind(0, 5, ?)", what -> CHECK.told("stiff 3 0;heavy 1 0;signs 1;").kind(0, 5, what), 0, 1);
        // A TURN back at first: all but the stiff one go on, and stay a TURN back, while it stays at 7.
        CoilWheels stiff = CHECK.told("plain 3 7;signs 0 3 3;");
        CHECK.row("stiff: kind(0, 3, ?)", what -> stiff.kind(0, 3, what), 3, 0);
        // A TURN back at first: plain and quick go on, heavy and stiff are set going alone; FIELD 2 is then too
        // far for them, and FIELD 3 from place 6 is no TURN back any more.
        CoilWheels heavy = CHECK.told("plain 2 6;signs 0 3 1;");
        CHECK.row("heavy: kind(0, 3, ?)", what -> heavy.kind(0, 3, what), 2, 0);
    }

    private static void kindIsBad() {
        CHECK.says(21, "BAD.");
        CoilWheels x = CHECK.told("stiff 3 0;plain 0 0;signs 3;");
        CHECK.bounds("kind(?, 0, 0)", 0, 1, r -> x.kind(r, 0, 0));
        CHECK.bounds("kind(?, 200, 1)", 0, 1, r -> x.kind(r, 200, 1));
        CHECK.bounds("kind(0, ?, 0)", 0, 200, n -> x.kind(0, n, 0));
        CHECK.bounds("kind(0, ?, 1)", 0, 200, n -> x.kind(0, n, 1));
        CHECK.bounds("kind(0, 0, ?)", 0, 1, what -> x.kind(0, 0, what));
        CHECK.bounds("kind(?, 1, 0) of four", 0, 3, r -> CHECK.told(FOUR).kind(r, 1, 0));
        CHECK.takesNone("kind(?, 1, 0) of none", r -> new CoilWheels().kind(r, 1, 0));
    }

    private static void swap() {
        CHECK.says(22, "Two SIGNS that are to change places so that ALL LOST is least behind n TICKS (0 to 200), less than as it is: "
            + "100 times the lesser and the greater, of several the least (what 0), how much (1).");
        // Behind 5, FIELD 5 has lost a TURN; with the last sign earlier, FIELD 3 has not.
        CoilWheels x = CHECK.told("plain 0 0;signs 1 1 1 1 1 2;");
        String before = Check.stateOf(x);
        CHECK.row("swap(5, ?)", what -> x.swap(5, what), 5, 0);
        CHECK.stays("swap", before, x);
        // FIELD 13 behind 7 has lost two; 12 to 10, with a hold or a back earlier, have lost one.
        CoilWheels less = CHECK.told("plain 0 0;signs 1 3 3 3 3 3 3 0 2;");
        CHECK.due("less: runs(7, 2)", less.runs(7, 2), 2);
        CHECK.row("less: swap(7, ?)", what -> less.swap(7, what), 7, 1);
        // On first, FIELD 1 is OFF -3 and none lost; behind both SIGNS it is 0 in any case.
        CoilWheels two = CHECK.told("plain 0 4;signs 2 1;");
        CHECK.row("two: swap(1, ?)", what -> two.swap(1, what), 1, 0);
        // The last two of sixteen: from place -3, FIELD 2 has lost a TURN, 0 has not.
        CoilWheels last = CHECK.told("plain 0 0;signs 0 0 0 0 0 0 0 0 0 0 0 0 0 0 3 0;");
        last.turn(0, 5);
        CHECK.row("last: swap(15, ?)", what -> last.swap(15, what), 1415, 0);
        // Of sixteen SIGNS two hundred TICKS do the first eight once more than the others: FIELD 13 or 12.
        CoilWheels round = CHECK.told("plain 0 0;signs 1 0 0 0 0 0 0 0 0 0 0 0 0 0 0 0;");
        CHECK.row("round: swap(200, ?)", what -> round.swap(200, what), 8, 1);
        CHECK.row("round: swap(199, ?)", what -> round.swap(199, what), 7, 1);
        // Each comes where the other was: FIELD 5 behind 3 and behind 4; with the hold first, 3 behind 3, but 5
        // behind 4, with the back first 2.
        CoilWheels each = CHECK.told("plain 0 0;signs 3 3 1 0 2;");
        CHECK.row("each: swap(3, ?)", what -> each.swap(3, what), 3, 0);
        CHECK.row("each: swap(4, ?)", what -> each.swap(4, what), 4, 0);
        CoilWheels full = CHECK.told("plain 0 0;signs 1 1 1 1 1 0 0 0 0 0 0 0 0 0 0 2;");
        CHECK.due("full: swap(15, 0)", full.swap(15, 0), 15);
        CHECK.due("full: swap(5, 0)", full.swap(5, 0), 5);
    }

    private static void swapOfSeveral() {
        CHECK.says(22, "of several the least (what 0), how much (1).");
        // SIGNS 1 to 6 would each do; the first is the same as the last.
        CoilWheels later = CHECK.told("plain 0 0;signs 2 1 1 1 1 1 1 2;");
        CHECK.row("later: swap(7, ?)", what -> later.swap(7, what), 107, 0);
        // The greater gain goes first, though it is not of the least SIGNS: two on spares both.
        CoilWheels both = CHECK.told("plain 0 0;plain 0 1;signs 1 1 1 3 1 0;");
        CHECK.row("both: swap(5, ?)", what -> both.swap(5, what), 305, 0);
    }

    private static void swapIsBadOrNone() {
        CHECK.says(22, "BAD; NONE: by none.");
        CoilWheels x = CHECK.told("plain 0 0;signs 1 1 1 1 1 2;");
        CHECK.row("swap(4, ?): nothing is lost", what -> x.swap(4, what), Check.NONE, Check.NONE, Check.BAD);
        CHECK.row("swap(0, ?)", what -> x.swap(0, what), Check.NONE, Check.NONE, Check.BAD);
        CHECK.bounds("swap(?, 0)", 0, 200, n -> x.swap(n, 0));
        CHECK.bounds("swap(?, 1)", 0, 200, n -> x.swap(n, 1));
        CHECK.bounds("swap(5, ?)", 0, 1, what -> x.swap(5, what));
        CHECK.bounds("swap(4, ?): BAD fits first", 0, 1, what -> x.swap(4, what));
        CHECK.row("two: swap(2, ?): as it is", what -> CHECK.told("plain 0 4;signs 2 1;").swap(2, what), Check.NONE, Check.NONE);
        CHECK.row("no ROTORS: swap(9, ?)", what -> CHECK.told("signs 1 3 2;").swap(9, what), Check.NONE, Check.NONE);
        CHECK.row("no SIGNS: swap(9, ?)", what -> CHECK.told("plain 0 4;").swap(9, what), Check.NONE, Check.NONE);
        CHECK.row("one SIGN: swap(9, ?)", what -> CHECK.told("plain 0 0;signs 1;").swap(9, what), Check.NONE, Check.NONE);
        CHECK.row("like SIGNS: swap(9, ?)", what -> CHECK.told("plain 0 0;signs 1 1;").swap(9, what), Check.NONE, Check.NONE);
        CHECK.row("nothing: swap(200, ?)", what -> new CoilWheels().swap(200, what), Check.NONE, Check.NONE, Check.BAD);
        // A SIGN that was cut off is none to change with.
        x.cut(5);
        CHECK.row("cut: swap(5, ?)", what -> x.swap(5, what), Check.NONE, Check.NONE);
    }

    private static void ease() {
        CHECK.says(23, "The SIGN that had better be 0 so that ALL LOST is least behind n TICKS (0 to 200), less than as it is, "
            + "of several the first (what 0), how much (1).");
        // FIELD 6 behind 5: both have lost one; one place less spares the second, two spare both.
        CoilWheels x = CHECK.told("plain 0 0;plain 0 1;signs 1 1 1 3 1;");
        String before = Check.stateOf(x);
        CHECK.row("ease(5, ?)", what -> x.ease(5, what), 3, 0);
        CHECK.row("ease(4, ?): the first of several", what -> x.ease(4, what), 0, 0);
        CHECK.stays("ease", before, x);
        CHECK.due("one: ease(8, 0)", CHECK.told("plain 0 0;plain 0 1;signs 0 1 1 1 1 2 1 1;").ease(8, 0), 1);
        CoilWheels full = CHECK.told("plain 0 0;signs 0 0 0 0 0 0 0 0 0 0 0 0 0 3 1 3;");
        CHECK.due("full: ease(16, 0)", full.ease(16, 0), 13);
        full.set(13, 1);
        full.set(14, 2);
        full.set(0, 3);
        full.set(1, 1);
        CHECK.due("full: runs(16, 1)", full.runs(16, 1), 100005);
        CHECK.due("full: ease(16, 0) then", full.ease(16, 0), 0);
        // The last of sixteen alone: from place -3, FIELD 2 has lost a TURN, 0 has not.
        CoilWheels last = CHECK.told("plain 0 0;signs 0 0 0 0 0 0 0 0 0 0 0 0 0 0 0 3;");
        last.turn(0, 5);
        CHECK.row("last: ease(16, ?)", what -> last.ease(16, what), 15, 0);
        // Not all that is lost is spared: FIELD 200 has lost 25.
        CHECK.row("some: ease(200, ?)", what -> CHECK.told("plain 0 0;signs 1 1;").ease(200, what), 0, 12);
        CHECK.row("one SIGN: ease(200, ?)", what -> CHECK.told("plain 0 0;signs 1;").ease(200, what), 0, 0);
    }

    private static void easeIsBadOrNone() {
        CHECK.says(23, "BAD; NONE: none.");
        CoilWheels x = CHECK.told("plain 0 0;plain 0 1;signs 1 1 1 3 1;");
        CHECK.row("ease(3, ?): nothing is lost", what -> x.ease(3, what), Check.NONE, Check.NONE, Check.BAD);
        CHECK.row("ease(0, ?)", what -> x.ease(0, what), Check.NONE, Check.NONE, Check.BAD);
        CHECK.bounds("ease(?, 0)", 0, 200, n -> x.ease(n, 0));
        CHECK.bounds("ease(?, 1)", 0, 200, n -> x.ease(n, 1));
        CHECK.bounds("ease(5, ?)", 0, 1, what -> x.ease(5, what));
        CHECK.bounds("ease(3, ?): BAD fits first", 0, 1, what -> x.ease(3, what));
        // FIELD 7 or 5 instead have lost as many.
        CHECK.row("never: ease(4, ?)", what -> CHECK.told("plain 0 0;signs 3 3 3 1;").ease(4, what), Check.NONE, Check.NONE);
        CHECK.row("no ROTORS: ease(9, ?)", what -> CHECK.told("signs 1 3 2;").ease(9, what), Check.NONE, Check.NONE);
        CHECK.row("no SIGNS: ease(9, ?)", what -> CHECK.told("plain 0 4;").ease(9, what), Check.NONE, Check.NONE);
        CHECK.row("holds: ease(9, ?)", what -> CHECK.told("plain 0 4;signs 0 0;").ease(9, what), Check.NONE, Check.NONE);
        CHECK.row("nothing: ease(200, ?)", what -> new CoilWheels().ease(200, what), Check.NONE, Check.NONE, Check.BAD);
        x.cut(3);
        x.ticks(1);
        CHECK.row("cut: ease(2, ?)", what -> x.ease(2, what), Check.NONE, Check.NONE);
    }

    private static void begin() {
        CHECK.says(24, "By how many places (0 to 7) on a ROTOR had better be turned now (its WAY stays) so that ALL LOST is least "
            + "behind n TICKS (0 to 200), of several the least (what 0), how much (1).");
        CoilWheels x = CHECK.told("plain 0 0;plain 0 0;signs 1;");
        String before = Check.stateOf(x);
        CHECK.row("begin(0, 0, ?)", what -> x.begin(0, 0, what), 0, 0);
        CHECK.row("begin(0, 4, ?)", what -> x.begin(0, 4, what), 0, 0);
        // FIELD 5 is 4 from place 1, and the other has lost one.
        CHECK.row("begin(0, 5, ?)", what -> x.begin(0, 5, what), 1, 1);
        // FIELD 11 is 4 from place 7, FIELD 12 is further from any.
        CHECK.row("begin(0, 11, ?)", what -> x.begin(0, 11, what), 7, 1);
        CHECK.row("begin(1, 11, ?)", what -> x.begin(1, 11, what), 7, 1);
        CHECK.row("begin(0, 12, ?): none is better", what -> x.begin(0, 12, what), 0, 2);
        CHECK.row("begin(0, 200, ?)", what -> x.begin(0, 200, what), 4, 49);
        CHECK.stays("begin", before, x);
        // On from its place, wherever that is.
        x.turn(0, 0);
        CHECK.row("begin(0, 0, ?) of a TURN lost", what -> x.begin(0, 0, what), 4, 0);
        CHECK.row("begin(0, 0, ?) of a TURN back", what -> CHECK.told("plain 0 4;").begin(0, 0, what), 0, 1);
    }

    private static void beginWayStays() {
        CHECK.says(24, "(its WAY stays)");
        // Set going on by FIELD 1 and 2, it is at 1; FIELD 3, 5, 7 are then OFF 2, 3, 4 by its WAY
        // (places 2, 3), but would be OFF 2, 4, -2 without it.
        CoilWheels x = CHECK.run("heavy 3 0;signs 1 1 1 3 3;", 2);
        CHECK.due("rotor(0, 3)", x.rotor(0, 3), 11);
        CHECK.row("begin(0, 3, ?)", what -> x.begin(0, 3, what), 0, 0);
        x.turn(0, 8);
        CHECK.row("begin(0, 3, ?) by WAY 0", what -> x.begin(0, 3, what), 1, 0);
    }

    private static void beginIsBad() {
        CHECK.says(24, "BAD.");
        CoilWheels x = CHECK.told("plain 0 0;plain 0 0;signs 1;");
        CHECK.bounds("begin(?, 0, 0)", 0, 1, r -> x.begin(r, 0, 0));
        CHECK.bounds("begin(?, 200, 1)", 0, 1, r -> x.begin(r, 200, 1));
        CHECK.bounds("begin(0, ?, 0)", 0, 200, n -> x.begin(0, n, 0));
        CHECK.bounds("begin(0, ?, 1)", 0, 200, n -> x.begin(0, n, 1));
        CHECK.bounds("begin(0, 0, ?)", 0, 1, what -> x.begin(0, 0, what));
        CHECK.bounds("begin(?, 1, 0) of four", 0, 3, r -> CHECK.told(FOUR).begin(r, 1, 0));
        CHECK.takesNone("begin(?, 1, 0) of none", r -> new CoilWheels().begin(r, 1, 0));
    }
}
