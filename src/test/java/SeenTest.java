/** SEEN, and promises 27 to 32: see, forget, kinds, grips, starts, ask. */
public final class SeenTest {
    private static final Check CHECK = new Check();
    private static final String FOUR = "plain 3 0;plain 3 0;plain 3 0;plain 3 0;";

    public static void main(String[] args) {
        seenFromNowOn();
        seenBelowNothing();
        see();
        seeIsBadOrFull();
        forget();
        forgetIsBad();
        kinds();
        grips();
        starts();
        startsByItsWay();
        allIsAsSeen();
        askFirst();
        askOfTheLastStart();
        askIsBadOrNone();
        CHECK.finish();
    }

    private static void seenFromNowOn() {
        CHECK.says(Check.TERMS, "SEEN (6): behind n TICKS (0 to 40) from now on a ROTOR is AT a place that leaves p by 8");
        CoilWheels x = CHECK.told("plain 3 0;signs 1;");
        x.see(1, 0, 2);
        CHECK.due("grips(0)", x.grips(0), 0);
        x.ticks(1);
        CHECK.due("grips(0) a TICK on", x.grips(0), 14);
        CHECK.due("count(0) a TICK on", x.count(0), 1);
        // Behind none and behind 40, as it is and then.
        CoilWheels y = CHECK.told("plain 3 0;signs 1;");
        y.see(0, 0, 0);
        CHECK.due("grips(0) behind none", y.grips(0), 15);
        y.see(40, 0, 0);
        CHECK.due("grips(0) behind 40, five TURNS on", y.grips(0), 15);
        y.see(39, 0, 7);
        CHECK.due("grips(0) behind 39", y.grips(0), 14);
        y.see(40, 0, 1);
        CHECK.due("grips(0) by both of 40", y.grips(0), 0);
    }

    private static void seenBelowNothing() {
        CHECK.says(Check.TERMS, "(0 to 7, below nothing, too).");
        CoilWheels x = CHECK.told("plain 3 0;signs 2;");
        for (int n = 0; n <= 40; n++) {
            for (int p = 0; p <= 7; p++) {
                x.forget(0);
                x.see(n, 0, p);
                int fits = Math.floorMod(-n, 8) == p ? 14 : 0;
                CHECK.due("grips(0) behind " + n + ", place leaves " + p, x.grips(0) & 14, fits);
            }
        }
        CoilWheels back = CHECK.told("stiff 3 0;signs 2;");
        back.see(1, 0, 7);
        CHECK.due("back: kinds(0)", back.kinds(0), 3);
        CoilWheels turned = CHECK.told("plain 3 0;");
        turned.turn(0, 5);
        turned.see(0, 0, 5);
        CHECK.due("turned: kinds(0) at -3", turned.kinds(0), 15);
        CHECK.due("turned: starts(0) at -3", turned.starts(0), 1);
    }

    private static void see() {
        CHECK.says(27, "SEEN: behind n TICKS (0 to 40) a ROTOR is AT a place that leaves p by 8: how many are.");
        CoilWheels x = CHECK.told("plain 3 0;plain 3 0;");
        for (int n = 1; n <= 6; n++) {
            CHECK.due("see as " + n, x.see(8 * n - 8, n % 2, 0), n);
            CHECK.due("count(0) of " + n, x.count(0), n);
        }
        CHECK.due("kinds(0) by six", x.kinds(0), 15);
        // The same may be SEEN twice; what can not be is SEEN, too.
        CoilWheels twice = CHECK.told("plain 3 0;");
        CHECK.due("see(0, 0, 0)", twice.see(0, 0, 0), 1);
        CHECK.due("see(0, 0, 0) again", twice.see(0, 0, 0), 2);
        CHECK.due("kinds(0)", twice.kinds(0), 15);
        CHECK.due("see(0, 0, 1)", twice.see(0, 0, 1), 3);
        CHECK.due("kinds(0) then", twice.kinds(0), 0);
    }

    private static void seeIsBadOrFull() {
        CHECK.says(27, "BAD; FULL.");
        CHECK.bounds("see(?, 0, 0)", 0, 40, n -> CHECK.told("plain 3 0;").see(n, 0, 0));
        CHECK.bounds("see(0, ?, 0) of two", 0, 1, r -> CHECK.told("plain 3 0;plain 3 0;").see(0, r, 0));
        CHECK.bounds("see(0, ?, 0) of four", 0, 3, r -> CHECK.told(FOUR).see(0, r, 0));
        CHECK.bounds("see(0, 0, ?)", 0, 7, p -> CHECK.told("plain 3 0;").see(0, 0, p));
        CHECK.takesNone("see(0, ?, 0) of none", r -> new CoilWheels().see(0, r, 0));
        CoilWheels x = CHECK.told("plain 3 0;");
        CHECK.due("see(41, 0, 0)", x.see(41, 0, 0), Check.BAD);
        CHECK.due("count(0): what is refused is not SEEN", x.count(0), 0);
        for (int n = 1; n <= 6; n++) {
            CHECK.due("see as " + n, x.see(0, 0, 0), n);
        }
        CHECK.due("see(0, 0, 1) as 7", x.see(0, 0, 1), Check.FULL);
        CHECK.due("count(0) then", x.count(0), 6);
        CHECK.due("kinds(0): what is refused is not SEEN", x.kinds(0), 15);
        CHECK.bounds("see(?, 0, 0) as 7: BAD fits first", 0, 40, n -> x.see(n, 0, 0));
        CHECK.bounds("see(0, ?, 0) as 7: BAD fits first", 0, 0, r -> x.see(0, r, 0));
        CHECK.bounds("see(0, 0, ?) as 7: BAD fits first", 0, 7, p -> x.see(0, 0, p));
        x.forget(5);
        CHECK.due("see(0, 0, 1) as 6", x.see(0, 0, 1), 6);
        CHECK.due("kinds(0) by it", x.kinds(0), 0);
        CHECK.due("see(0, 0, 1) as 7 again", x.see(0, 0, 1), Check.FULL);
    }

    private static void forget() {
        CHECK.says(28, "SEEN are the first n alone: how many there were.");
        CoilWheels x = CHECK.told("plain 3 0;");
        CHECK.due("forget(0) of none", x.forget(0), 0);
        x.see(0, 0, 0);
        x.see(0, 0, 1);
        x.see(0, 0, 2);
        CHECK.due("forget(3)", x.forget(3), 3);
        CHECK.due("starts(0) by all", x.starts(0), 0);
        CHECK.due("forget(1)", x.forget(1), 3);
        CHECK.due("starts(0) by the first", x.starts(0), 1);
        CHECK.due("see(0, 0, 0): the others are gone", x.see(0, 0, 0), 2);
        CHECK.due("starts(0) by the first and this", x.starts(0), 1);
        CHECK.due("forget(0)", x.forget(0), 2);
        CHECK.due("count(0)", x.count(0), 0);
        CHECK.due("starts(0) by none", x.starts(0), 255);
    }

    private static void forgetIsBad() {
        CHECK.says(28, "BAD.");
        CHECK.bounds("forget(?) of none", 0, 0, n -> new CoilWheels().forget(n));
        CoilWheels x = CHECK.told("plain 3 0;");
        for (int i = 1; i <= 6; i++) {
            x.see(0, 0, 0);
            CHECK.due("forget(" + (i + 1) + ") of " + i, x.forget(i + 1), Check.BAD);
            CHECK.due("forget(" + i + ") of " + i, x.forget(i), i);
        }
        for (int n : Check.EXTREMES) {
            CHECK.due("forget(" + n + ")", x.forget(n), Check.BAD);
        }
        CHECK.due("count(0): what is refused leaves them", x.count(0), 6);
        CHECK.due("forget(5)", x.forget(5), 6);
        CHECK.due("forget(6): there are five", x.forget(6), Check.BAD);
    }

    private static void kinds() {
        CHECK.says(29, "KINDS of a ROTOR (bits) by which, all else as it is, all is as SEEN.", "BAD.");
        // Behind 1 TICK plain and quick are at 1; behind 2 heavy is at 1 and stiff at 0.
        CoilWheels x = CHECK.told("plain 3 0;signs 1;");
        CHECK.due("kinds(0) by nothing SEEN", x.kinds(0), 15);
        x.see(1, 0, 0);
        CHECK.due("kinds(0)", x.kinds(0), 12);
        x.see(2, 0, 1);
        CHECK.due("kinds(0) by two", x.kinds(0), 4);
        x.see(40, 0, 39 % 8);
        CHECK.due("kinds(0) by three", x.kinds(0), 4);
        x.see(40, 0, 0);
        CHECK.due("kinds(0) by four", x.kinds(0), 0);
        CHECK.due("rotor(0, 0) stays", x.rotor(0, 0), 0);
        // Each KIND alone, the last, too: OFF -3 leaves places 2, 1, 3, 3, then 1, 0, 2, 2, then 0, 0, 1, 1, then 0, 0, 0, 1.
        CoilWheels far = CHECK.told("plain 3 3;");
        far.see(1, 0, 3);
        CHECK.due("far: kinds(0)", far.kinds(0), 12);
        far.see(4, 0, 1);
        CHECK.due("far: kinds(0): stiff alone", far.kinds(0), 8);
        // Its WAY is as it is: set going on, a heavy one moves at once, and a stiff one by OFF 2.
        CoilWheels going = CHECK.run("heavy 3 0;signs 3 0 0;", 1);
        going.see(1, 0, 1);
        CHECK.due("going: kinds(0)", going.kinds(0), 13);
        CHECK.bounds("kinds(?)", 0, 0, x::kinds);
        CHECK.bounds("kinds(?) of four", 0, 3, CHECK.told(FOUR)::kinds);
        CHECK.takesNone("kinds(?) of none", new CoilWheels()::kinds);
    }

    private static void grips() {
        CHECK.says(30, "GRIPS of a ROTOR (bits) by which, all else as it is, all is as SEEN.", "BAD.");
        CoilWheels x = CHECK.told("plain 0 0;signs 3;");
        CHECK.due("grips(0) by nothing SEEN", x.grips(0), 15);
        x.see(1, 0, 1);
        CHECK.due("grips(0)", x.grips(0), 12);
        x.see(2, 0, 2);
        CHECK.due("grips(0) by two", x.grips(0), 8);
        x.forget(0);
        x.see(1, 0, 0);
        CHECK.due("grips(0) by another", x.grips(0), 3);
        x.see(1, 0, 1);
        CHECK.due("grips(0) by what can not be", x.grips(0), 0);
        CHECK.due("rotor(0, 1) stays", x.rotor(0, 1), 0);
        CoilWheels one = CHECK.told("plain 0 1;");
        one.see(1, 0, 1);
        CHECK.due("one: grips(0): 0 alone", one.grips(0), 1);
        CHECK.bounds("grips(?)", 0, 0, x::grips);
        CHECK.bounds("grips(?) of four", 0, 3, CHECK.told(FOUR)::grips);
        CHECK.takesNone("grips(?) of none", new CoilWheels()::grips);
    }

    private static void starts() {
        CHECK.says(31, "By how many places (bits 0 to 7) on a ROTOR may be now (its WAY as it is), all else as it is, "
            + "so that all is as SEEN.", "BAD.");
        CoilWheels x = CHECK.told("plain 2 6;signs 0;");
        // From 6 on: OFF 2, 1, 0, -1, -2 come nearer by one; -3, 4, 3 stay.
        int[] ends = {7, 0, 0, 0, 1, 3, 4, 5};
        CHECK.due("starts(0) by nothing SEEN", x.starts(0), 255);
        for (int p = 0; p < 8; p++) {
            int bits = 0;
            for (int v = 0; v < 8; v++) {
                bits |= ends[v] == p ? 1 << v : 0;
            }
            x.forget(0);
            x.see(1, 0, p);
            CHECK.due("starts(0) for " + p, x.starts(0), bits);
            x.forget(0);
            x.see(0, 0, p);
            CHECK.due("starts(0) for " + p + " now", x.starts(0), 1 << Math.floorMod(p - 6, 8));
        }
        CHECK.due("rotor(0, 2) stays", x.rotor(0, 2), 100006);
        CHECK.bounds("starts(?)", 0, 0, x::starts);
        CHECK.bounds("starts(?) of four", 0, 3, CHECK.told(FOUR)::starts);
        CHECK.takesNone("starts(?) of none", new CoilWheels()::starts);
    }

    private static void startsByItsWay() {
        CHECK.says(31, "(its WAY as it is)");
        // Set going on, a heavy one moves on at once, but not back.
        CoilWheels heavy = CHECK.run("heavy 3 0;signs 1 0;", 1);
        heavy.see(1, 0, 1);
        CHECK.due("heavy: starts(0)", heavy.starts(0), 3);
        heavy.turn(0, 8);
        CHECK.due("heavy: starts(0) by WAY 0", heavy.starts(0), 2);
    }

    private static void allIsAsSeen() {
        CHECK.says(29, "all else as it is, all is as SEEN.");
        CoilWheels x = CHECK.told("plain 3 0;plain 3 4;signs 1;");
        x.see(1, 0, 1);
        // The second has OFF -3 behind FIELD 1 and comes to 3.
        x.see(1, 1, 3);
        CHECK.due("kinds(0)", x.kinds(0), 3);
        CHECK.due("kinds(1)", x.kinds(1), 1);
        CHECK.due("grips(1)", x.grips(1), 8);
        x.see(0, 1, 5);
        CHECK.due("kinds(0): the other is not as seen", x.kinds(0), 0);
        CHECK.due("grips(0): the other is not as seen", x.grips(0), 0);
        CHECK.due("starts(0): the other is not as seen", x.starts(0), 0);
        CHECK.due("ask(0, 0): the other is not as seen", x.ask(0, 0), Check.NONE);
        // What was SEEN of a later TICK counts, though something of an earlier one was SEEN after it.
        CoilWheels later = CHECK.told("plain 3 0;signs 1;");
        later.see(5, 0, 4);
        later.see(0, 0, 0);
        CHECK.due("later: kinds(0)", later.kinds(0), 4);
        CHECK.due("later: grips(0)", later.grips(0), 0);
        CHECK.due("later: starts(0)", later.starts(0), 0);
        // The sixth counts as the first, and so does the last ROTOR.
        CoilWheels six = CHECK.told(FOUR);
        for (int i = 0; i < 5; i++) {
            six.see(0, 0, 0);
        }
        CHECK.due("six: kinds(0) by five", six.kinds(0), 15);
        six.see(0, 3, 1);
        CHECK.due("six: kinds(0)", six.kinds(0), 0);
        CHECK.due("six: starts(0)", six.starts(0), 0);
        CHECK.due("six: starts(3)", six.starts(3), 2);
    }

    private static void askFirst() {
        CHECK.says(32, "Behind how many TICKS (0 to 40) to look what the place of a ROTOR leaves by 8, so that of starts() of it "
            + "fewest are left at the worst, fewer than now, the first (what 0), how many these are (1).");
        // Behind none no two starts leave the same by 8: one is left, and no later look leaves fewer.
        CoilWheels x = CHECK.told("plain 2 6;signs 0;");
        CHECK.row("ask(0, ?) of eight", what -> x.ask(0, what), 0, 1);
        x.see(1, 0, 0);
        CHECK.due("starts(0)", x.starts(0), 14);
        CHECK.row("ask(0, ?) of three", what -> x.ask(0, what), 0, 1);
        CHECK.due("count(0): to ask is not to see", x.count(0), 1);
        CoilWheels heavy = CHECK.run("heavy 3 0;signs 1 0;", 1);
        heavy.see(1, 0, 1);
        CHECK.row("heavy: ask(0, ?) of two", what -> heavy.ask(0, what), 0, 1);
        // Of that ROTOR: where one was SEEN is known, where the others are is not.
        CoilWheels each = CHECK.told("plain 3 0;plain 3 4;plain 3 0;");
        each.see(0, 1, 4);
        CHECK.row("each: ask(0, ?)", what -> each.ask(0, what), 0, 1);
        CHECK.row("each: ask(1, ?)", what -> each.ask(1, what), Check.NONE, Check.NONE);
        CHECK.row("each: ask(2, ?)", what -> each.ask(2, what), 0, 1);
    }

    private static void askOfTheLastStart() {
        CHECK.says(32, "so that of starts() of it fewest are left at the worst, fewer than now,");
        // From places 1, 7, 8 a plain one leaves 0 behind a TICK: from where it is, from 6 and from 7 on.
        CoilWheels x = CHECK.told("plain 1 1;");
        x.see(1, 0, 0);
        CHECK.due("starts(0)", x.starts(0), 1 | 64 | 128);
        // Set going back, a heavy one does so from 1 and 8, the first and the last of all starts.
        CoilWheels two = CHECK.run("heavy 3 1;", 1);
        two.see(1, 0, 0);
        CHECK.due("two: starts(0)", two.starts(0), 1 | 128);
        CHECK.row("two: ask(0, ?)", what -> two.ask(0, what), 0, 1);
        // One alone is not fewer than now, be it the first or the last.
        CoilWheels one = CHECK.told("plain 1 1;");
        one.see(0, 0, 1);
        CHECK.row("the first: ask(0, ?)", what -> one.ask(0, what), Check.NONE, Check.NONE);
        one.forget(0);
        one.see(0, 0, 0);
        CHECK.due("the last: starts(0)", one.starts(0), 128);
        CHECK.row("the last: ask(0, ?)", what -> one.ask(0, what), Check.NONE, Check.NONE);
    }

    private static void askIsBadOrNone() {
        CHECK.says(32, "BAD; NONE: none.");
        CoilWheels x = CHECK.told("plain 2 6;signs 0;");
        x.see(0, 0, 7);
        CHECK.row("ask(0, ?) of one", what -> x.ask(0, what), Check.NONE, Check.NONE, Check.BAD);
        x.see(0, 0, 6);
        CHECK.row("ask(0, ?) of no start", what -> x.ask(0, what), Check.NONE, Check.NONE, Check.BAD);
        CHECK.bounds("ask(?, 0)", 0, 0, r -> x.ask(r, 0));
        CHECK.bounds("ask(?, 1)", 0, 0, r -> x.ask(r, 1));
        CHECK.bounds("ask(0, ?)", 0, 1, what -> x.ask(0, what));
        CHECK.bounds("ask(?, 0) of four", 0, 3, r -> CHECK.told(FOUR).ask(r, 0));
        CHECK.takesNone("ask(?, 0) of none", r -> new CoilWheels().ask(r, 0));
    }
}
