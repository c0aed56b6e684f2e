import java.util.ArrayList;
import java.util.List;

/**
 * What a call tells of later TICKS is what comes when it is done by hand, on a like object: from any TICK and FIELD,
 * by any EVERY, with ROTORS that are going, have lost TURNS, stand below 0.
 */
public final class ByHandTest {
    private static final Check CHECK = new Check();
    private static final int[] TICKS_ON = {0, 1, 2, 3, 4, 5, 7, 8, 13, 22, 40, 99, 100, 101, 199, 200};

    /** A text, then how many TICKS are done, then what EVERY becomes. */
    private static final Object[][] STATES = {
        {"heavy 3 0;plain 1 0;stiff 3 6;quick 2 1;signs 1 1 0 3 2 1 3 1;every 2;", 5, 2},
        {"heavy 2 0;stiff 3 2;signs 2 2 0 2 1 2;every 1;", 23, 3},
        {"plain 0 0;heavy 3 7;heavy 3 1;signs 3 0 1 1 0;every 3;", 64, 1},
        {"quick 3 5;stiff 3 0;plain 1 3;signs 2 2 3 2 2 1 1;every 1;", 9, 1},
        {"heavy 3 0;signs 1 1 1 3 3 1 0 2 1 0 3 1 1 1 0 1;every 1;", 2, 1},
        {"stiff 3 0;heavy 1 4;quick 3 0;plain 3 1;signs 2;every 1;", 9, 9},
        {"plain 2 3;heavy 3 3;signs 1 3;every 4;", 9702, 4},
    };

    private final int state;

    private ByHandTest(int state) {
        this.state = state;
    }

    public static void main(String[] args) {
        statesDiffer();
        for (int state = 0; state < STATES.length; state++) {
            new ByHandTest(state).all();
        }
        CHECK.finish();
    }

    private void all() {
        runsAndAhead();
        whenFirst();
        slowest();
        weakest();
        kindOfARotor();
        twoSigns();
        oneSign();
        beginnings();
        sureLuck();
        asSeen();
        drifting();
    }

    /** Else what is asked could as well be told of TICK 0, of WAYS 0, of EVERY 1. */
    private static void statesDiffer() {
        int later = 0;
        int slower = 0;
        int below = 0;
        int waysOn = 0;
        int waysBack = 0;
        int lost = 0;
        for (int state = 0; state < STATES.length; state++) {
            CoilWheels x = new ByHandTest(state).object();
            later += x.rule(2) % x.rule(3) != 0 ? 1 : 0;
            slower += x.rule(3) > 1 ? 1 : 0;
            below += x.rule(4) < 100000 ? 1 : 0;
            lost += x.rule(6) > 0 ? 1 : 0;
            for (int r = 0; r < x.rule(0); r++) {
                waysOn += x.rotor(r, 3) == 11 ? 1 : 0;
                waysBack += x.rotor(r, 3) == 9 ? 1 : 0;
            }
        }
        CHECK.due("states at a TICK that EVERY does not divide", later > 1 ? 1 : 0, 1);
        CHECK.due("states by an EVERY above 1", slower > 2 ? 1 : 0, 1);
        CHECK.due("states with FIELD below 0", below > 1 ? 1 : 0, 1);
        CHECK.due("states with TURNS lost", lost > 2 ? 1 : 0, 1);
        CHECK.due("ROTORS that go on", waysOn > 2 ? 1 : 0, 1);
        CHECK.due("ROTORS that go back", waysBack > 2 ? 1 : 0, 1);
    }

    private CoilWheels object() {
        CoilWheels x = CHECK.told((String) STATES[state][0]);
        Check.runTo(x, (Integer) STATES[state][1]);
        x.every((Integer) STATES[state][2]);
        return x;
    }

    private String label(String call, int... args) {
        return "state " + state + ": " + Check.written(call, args);
    }

    /** By how many places ROTORS move in n TICKS, 200 at most. */
    private static int run(CoilWheels x, int n) {
        int first = Math.min(n, 100);
        return x.ticks(first) + x.ticks(n - first);
    }

    private void runsAndAhead() {
        CHECK.says(16, "BY TICKS, n of them (0 to 200): by how many places ROTORS move, as by ticks() (what 0), "
            + "100000 more than FIELD then (1), ALL LOST then (2)");
        CoilWheels x = object();
        for (int n : TICKS_ON) {
            CoilWheels done = object();
            int moved = run(done, n);
            CHECK.row(label("runs, what ?", n), what -> x.runs(n, what), moved, done.rule(4), done.rule(6));
            for (int r = 0; r < done.rule(0); r++) {
                CHECK.due(label("ahead", r, n, 0), x.ahead(r, n, 0), done.rotor(r, 2));
                CHECK.due(label("ahead", r, n, 1), x.ahead(r, n, 1), done.rotor(r, 5));
            }
        }
    }

    private void whenFirst() {
        CHECK.says(18, "BY TICKS: behind how many (0 to 200) LOST of a ROTOR is other than now first.");
        CoilWheels x = object();
        for (int r = 0; r < x.rule(0); r++) {
            CoilWheels done = object();
            int lost = done.rotor(r, 5);
            int n = 0;
            while (n <= 200 && done.rotor(r, 5) == lost) {
                done.ticks(1);
                n++;
            }
            CHECK.due(label("when", r), x.when(r), n <= 200 ? n : Check.NONE);
        }
    }

    private void slowest() {
        CHECK.says(19, "The least EVERY by which LOST of a ROTOR behind n TICKS (0 to 200) is as now.");
        CoilWheels x = object();
        for (int r = 0; r < x.rule(0); r++) {
            int lost = x.rotor(r, 5);
            for (int n : TICKS_ON) {
                int least = Check.NONE;
                for (int v = 9; v >= 1; v--) {
                    CoilWheels done = object();
                    done.every(v);
                    run(done, n);
                    least = done.rotor(r, 5) == lost ? v : least;
                }
                CHECK.due(label("slow", r, n), x.slow(r, n), least);
            }
        }
    }

    private void weakest() {
        CHECK.says(20, "The least GRIP of a ROTOR by which its LOST behind n TICKS (0 to 200) is as now.");
        CoilWheels x = object();
        for (int r = 0; r < x.rule(0); r++) {
            int lost = x.rotor(r, 5);
            for (int n : TICKS_ON) {
                int least = Check.NONE;
                for (int v = 3; v >= 0; v--) {
                    CoilWheels done = object();
                    done.alter(r, 1, v);
                    run(done, n);
                    least = done.rotor(r, 5) == lost ? v : least;
                }
                CHECK.due(label("need", r, n), x.need(r, n), least);
            }
        }
    }

    /** What was tried, each with ALL LOST behind it: the first of the least, or how much. */
    private static final class Tried {
        private final List<int[]> all = new ArrayList<>();

        void add(int which, CoilWheels done, int n) {
            run(done, n);
            all.add(new int[] {which, done.rule(6)});
        }

        int best(int below, int what) {
            int[] best = {Check.NONE, below};
            for (int[] one : all) {
                best = one[1] < best[1] ? one : best;
            }
            return best[0] == Check.NONE ? Check.NONE : best[what];
        }
    }

    private void kindOfARotor() {
        CHECK.says(21, "The KIND of a ROTOR by which ALL LOST is least behind n TICKS (0 to 200), "
            + "of several the first (what 0), how much (1).");
        CoilWheels x = object();
        for (int n : TICKS_ON) {
            for (int r = 0; r < x.rule(0); r++) {
                int q = r;
                Tried kinds = new Tried();
                for (int v = 0; v <= 3; v++) {
                    CoilWheels done = object();
                    done.alter(r, 0, v);
                    kinds.add(v, done, n);
                }
                CHECK.row(label("kind, what ?", r, n), what -> x.kind(q, n, what),
                    kinds.best(Integer.MAX_VALUE, 0), kinds.best(Integer.MAX_VALUE, 1));
            }
        }
    }

    private void twoSigns() {
        CHECK.says(22, "Two SIGNS that are to change places so that ALL LOST is least behind n TICKS (0 to 200), less than as it is: "
            + "100 times the lesser and the greater, of several the least (what 0), how much (1).");
        CoilWheels x = object();
        int signs = x.rule(1);
        for (int n : TICKS_ON) {
            Tried pairs = new Tried();
            for (int i = 0; i < signs; i++) {
                for (int j = i + 1; j < signs; j++) {
                    CoilWheels done = object();
                    done.set(j, done.set(i, done.sign(j)));
                    pairs.add(100 * i + j, done, n);
                }
            }
            CoilWheels asItIs = object();
            run(asItIs, n);
            CHECK.row(label("swap, what ?", n), what -> x.swap(n, what),
                pairs.best(asItIs.rule(6), 0), pairs.best(asItIs.rule(6), 1));
        }
    }

    private void oneSign() {
        CHECK.says(23, "The SIGN that had better be 0 so that ALL LOST is least behind n TICKS (0 to 200), less than as it is, "
            + "of several the first (what 0), how much (1).");
        CoilWheels x = object();
        int signs = x.rule(1);
        for (int n : TICKS_ON) {
            Tried holds = new Tried();
            for (int i = 0; i < signs; i++) {
                CoilWheels done = object();
                done.set(i, 0);
                holds.add(i, done, n);
            }
            CoilWheels asItIs = object();
            run(asItIs, n);
            CHECK.row(label("ease, what ?", n), what -> x.ease(n, what),
                holds.best(asItIs.rule(6), 0), holds.best(asItIs.rule(6), 1));
        }
    }

    /** As turn() takes the WAY, that of the ROTOR is taken first; the others keep theirs. */
    private void beginnings() {
        CHECK.says(24, "By how many places (0 to 7) on a ROTOR had better be turned now");
        for (int r = 0; r < object().rule(0); r++) {
            int q = r;
            CoilWheels x = object();
            x.turn(r, 8);
            for (int n : TICKS_ON) {
                Tried places = new Tried();
                for (int v = 0; v <= 7; v++) {
                    CoilWheels done = object();
                    done.turn(r, 8 + v);
                    places.add(v, done, n);
                }
                CHECK.row(label("begin, what ?", r, n), what -> x.begin(q, n, what),
                    places.best(Integer.MAX_VALUE, 0), places.best(Integer.MAX_VALUE, 1));
            }
        }
    }

    /** Coils that never fail are TICKS; where they always fail, places are as those of a ROTOR without grip. */
    private void sureLuck() {
        CHECK.says(25, "In each of n TICKS (0 to 8) coils fail by v out of ten (0 to 10)");
        CoilWheels x = object();
        int rotors = x.rule(0);
        for (int k = 0; k <= 8; k++) {
            int n = k;
            CoilWheels never = object();
            int moved = run(never, n);
            CHECK.row(label("mean(0, n, ?)", n), what -> x.mean(0, n, what), moved, 1);
            CHECK.row(label("mean(10, n, ?)", n), what -> x.mean(10, n, what), 0, 1);
            CoilWheels always = object();
            for (int r = 0; r < rotors; r++) {
                always.alter(r, 1, 0);
            }
            run(always, n);
            for (int i = 0; i < rotors; i++) {
                int r = i;
                CHECK.row(label("luck(0, r, n, ?)", r, n), what -> x.luck(0, r, n, what), never.rotor(r, 4) == 10 ? 1 : 0, 1);
                CHECK.row(label("luck(10, r, n, ?)", r, n), what -> x.luck(10, r, n, what), always.rotor(r, 4) == 10 ? 1 : 0, 1);
            }
        }
    }

    private void asSeen() {
        CHECK.says(29, "KINDS of a ROTOR (bits) by which, all else as it is, all is as SEEN.");
        for (int r = 0; r < object().rule(0); r++) {
            for (int n : new int[] {0, 1, 2, 3, 5, 9, 17, 39, 40}) {
                seenBehind(r, n);
            }
        }
    }

    private void seenBehind(int r, int n) {
        int[] kinds = new int[8];
        int[] grips = new int[8];
        int[] starts = new int[8];
        for (int v = 0; v <= 7; v++) {
            if (v <= 3) {
                CoilWheels kind = object();
                kind.alter(r, 0, v);
                kinds[leaves(kind, r, n)] |= 1 << v;
                CoilWheels grip = object();
                grip.alter(r, 1, v);
                grips[leaves(grip, r, n)] |= 1 << v;
            }
            CoilWheels start = object();
            start.turn(r, 8 + v);
            starts[leaves(start, r, n)] |= 1 << v;
        }
        CoilWheels x = object();
        CoilWheels turned = object();
        turned.turn(r, 8);
        for (int p = 0; p <= 7; p++) {
            x.forget(0);
            x.see(n, r, p);
            CHECK.due(label("see", n, r, p) + ": kinds", x.kinds(r), kinds[p]);
            CHECK.due(label("see", n, r, p) + ": grips", x.grips(r), grips[p]);
            turned.forget(0);
            turned.see(n, r, p);
            CHECK.due(label("see", n, r, p) + ": starts", turned.starts(r), starts[p]);
            boolean some = Integer.bitCount(starts[p]) > 1;
            CHECK.due(label("see", n, r, p) + ": ask(r, 0)", turned.ask(r, 0), some ? 0 : Check.NONE);
            CHECK.due(label("see", n, r, p) + ": ask(r, 1)", turned.ask(r, 1), some ? 1 : Check.NONE);
        }
    }

    /** What the place of a ROTOR leaves by 8 behind n TICKS. */
    private static int leaves(CoilWheels x, int r, int n) {
        x.ticks(n);
        return Math.floorMod(x.rotor(r, 2) - 100000, 8);
    }

    private void drifting() {
        CHECK.says(33, "got by 4 (down) modulo 4 is done as a SIGN in that TICK (whatever EVERY is): "
            + "ALL LOST in the end (what 0), by how many places ROTORS move (1).");
        for (int seed : new int[] {0, 7, -1, 99999, Integer.MIN_VALUE}) {
            CoilWheels x = object();
            CoilWheels done = object();
            done.every(1);
            done.cut(1);
            int next = seed;
            int moved = 0;
            for (int k = 1; k <= 100; k++) {
                int n = k;
                next = next * 1103515245 + 12345;
                // Bits 2 and 3 of what is got of bits 16 to 30.
                done.set(0, next >> 18 & 3);
                moved += done.ticks(1);
                CHECK.row(label("drift, what ?", seed, n), what -> x.drift(seed, n, what), done.rule(6), moved);
            }
        }
    }
}
