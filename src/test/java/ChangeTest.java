/** Promises 9 to 14: alter, turn, set, every, add, cut. */
public final class ChangeTest {
    private static final Check CHECK = new Check();
    private static final String SIXTEEN = "signs 0 1 2 3 0 1 2 3 0 1 2 3 0 1 2 3;";

    public static void main(String[] args) {
        alter();
        alterIsBad();
        turn();
        turnIsBadOrFull();
        set();
        setIsBad();
        every();
        add();
        addIsBadOrFull();
        cut();
        cutIsBad();
        CHECK.finish();
    }

    private static void alter() {
        CHECK.says(9, "KIND, GRIP (what 0, 1) of a ROTOR becomes v: what it was.");
        CoilWheels x = CHECK.run("plain 1 0;stiff 3 1;signs 1;", 1);
        CHECK.due("rotor(0, 3)", x.rotor(0, 3), 11);
        CHECK.due("alter(0, 0, 2)", x.alter(0, 0, 2), 0);
        CHECK.due("alter(0, 0, 3)", x.alter(0, 0, 3), 2);
        CHECK.due("alter(0, 1, 3)", x.alter(0, 1, 3), 1);
        CHECK.due("alter(1, 1, 0)", x.alter(1, 1, 0), 3);
        CHECK.due("alter(1, 0, 0)", x.alter(1, 0, 0), 3);
        CHECK.due("alter(1, 0, 0) again", x.alter(1, 0, 0), 0);
        CHECK.row("rotor(0, ?): place and WAY stay", what -> x.rotor(0, what), 3, 3, 100001, 11);
        CHECK.row("rotor(1, ?): place and WAY stay", what -> x.rotor(1, what), 0, 0, 100001, 10);
        // Heavy by a WAY that it got as a plain one, it moves at once.
        x.alter(0, 0, 2);
        CHECK.due("ticks(1)", x.ticks(1), 1);
    }

    private static void alterIsBad() {
        CHECK.says(9, "BAD.");
        CoilWheels x = CHECK.run("plain 1 0;stiff 3 1;signs 1;", 1);
        CHECK.bounds("alter(?, 0, 1)", 0, 1, r -> x.alter(r, 0, 1));
        CHECK.bounds("alter(?, 1, 1)", 0, 1, r -> x.alter(r, 1, 1));
        CHECK.bounds("alter(0, ?, 1)", 0, 1, what -> x.alter(0, what, 1));
        CHECK.bounds("alter(0, 0, ?)", 0, 3, v -> x.alter(0, 0, v));
        CHECK.bounds("alter(0, 1, ?)", 0, 3, v -> x.alter(0, 1, v));
        CHECK.bounds("alter(?, 0, 1) of four", 0, 3,
            r -> CHECK.told("plain 1 0;plain 1 0;plain 1 0;plain 1 0;").alter(r, 0, 1));
        CHECK.takesNone("alter(?, 0, 1) of none", r -> new CoilWheels().alter(r, 0, 1));
        String before = Check.stateOf(x);
        x.alter(0, 0, 4);
        x.alter(0, 1, 4);
        x.alter(0, 2, 0);
        x.alter(2, 0, 0);
        CHECK.stays("alter refused", before, x);
    }

    private static void turn() {
        CHECK.says(10, "A ROTOR is turned by hand by v less 8 places (v 0 to 16), its WAY is 0: 100000 more than its place then.");
        CoilWheels x = CHECK.run("plain 1 0;plain 1 1;signs 1;", 1);
        CHECK.due("rotor(0, 3)", x.rotor(0, 3), 11);
        CHECK.due("turn(0, 8)", x.turn(0, 8), 100001);
        CHECK.due("rotor(0, 3): its WAY is 0, not turned at all", x.rotor(0, 3), 10);
        CHECK.due("turn(0, 16)", x.turn(0, 16), 100009);
        CHECK.due("turn(0, 0)", x.turn(0, 0), 100001);
        CHECK.due("turn(0, 0) below 0", x.turn(0, 0), 99993);
        CHECK.due("turn(0, 7)", x.turn(0, 7), 99992);
        CHECK.due("turn(0, 9)", x.turn(0, 9), 99993);
        CHECK.due("rotor(0, 2)", x.rotor(0, 2), 99993);
        CHECK.due("rotor(1, 2): the other stays", x.rotor(1, 2), 100001);
        CHECK.due("rule(4): the FIELD stays", x.rule(4), 100001);
        // A WAY back is 0 then, too; that of the other stays.
        CoilWheels back = CHECK.run("heavy 3 0;heavy 3 0;signs 2;", 1);
        back.turn(0, 8);
        CHECK.due("back: rotor(0, 3)", back.rotor(0, 3), 10);
        CHECK.due("back: rotor(1, 3)", back.rotor(1, 3), 9);
    }

    private static void turnIsBadOrFull() {
        CHECK.says(10, "BAD; FULL: its place would be above 30000, without sign.");
        CHECK.bounds("turn(0, ?)", 0, 16, v -> CHECK.told("plain 1 0;").turn(0, v));
        CHECK.bounds("turn(?, 8) of two", 0, 1, r -> CHECK.told("plain 1 0;plain 1 1;").turn(r, 8));
        CHECK.bounds("turn(?, 8) of four", 0, 3,
            r -> CHECK.told("plain 1 0;plain 1 0;plain 1 0;plain 1 0;").turn(r, 8));
        CHECK.takesNone("turn(?, 8) of none", r -> new CoilWheels().turn(r, 8));
        CoilWheels x = CHECK.run("plain 1 0;signs 1;", 1);
        String before = Check.stateOf(x);
        x.turn(0, 17);
        x.turn(0, -1);
        x.turn(1, 0);
        CHECK.stays("turn refused", before, x);
        turnToTheLimit(16, 100000 + 30000);
        turnToTheLimit(0, 100000 - 30000);
    }

    /** The limit lies further off than 512 calls can turn; the code is held to it all the same. */
    private static void turnToTheLimit(int v, int limit) {
        CoilWheels x = CHECK.told("plain 1 0;");
        for (int i = 0; i < 3749; i++) {
            x.turn(0, v);
        }
        int on = v == 0 ? 7 : 9;
        CHECK.due("turn(0, " + v + ") to the limit", x.turn(0, v), limit);
        String before = Check.stateOf(x);
        CHECK.due("turn a place beyond", x.turn(0, on), Check.FULL);
        CHECK.due("turn beyond", x.turn(0, v), Check.FULL);
        CHECK.due("turn(0, 17): BAD fits first", x.turn(0, 17), Check.BAD);
        CHECK.due("turn(0, -1): BAD fits first", x.turn(0, -1), Check.BAD);
        CHECK.due("turn(1, " + v + "): BAD fits first", x.turn(1, v), Check.BAD);
        CHECK.stays("turn beyond", before, x);
        CHECK.due("turn(0, 8) at the limit", x.turn(0, 8), limit);
        CHECK.due("turn a place back", x.turn(0, 16 - on), limit - on + 8);
        CHECK.due("turn to the limit again", x.turn(0, on), limit);
        CHECK.due("turn two places beyond", x.turn(0, 2 * on - 8), Check.FULL);
    }

    private static void set() {
        CHECK.says(11, "A SIGN becomes v: what it was.");
        CoilWheels x = CHECK.told("signs 3 2;");
        CHECK.due("set(0, 0)", x.set(0, 0), 3);
        CHECK.due("set(1, 3)", x.set(1, 3), 2);
        CHECK.due("set(0, 1)", x.set(0, 1), 0);
        CHECK.due("set(0, 1) again", x.set(0, 1), 1);
        CHECK.row("sign(?)", x::sign, 1, 3, Check.BAD);
        CoilWheels full = CHECK.told(SIXTEEN);
        CHECK.due("set(15, 0)", full.set(15, 0), 3);
        CHECK.row("sign(?) of sixteen", full::sign, 0, 1, 2, 3, 0, 1, 2, 3, 0, 1, 2, 3, 0, 1, 2, 0);
    }

    private static void setIsBad() {
        CHECK.says(11, "BAD.");
        CoilWheels x = CHECK.told("signs 3 2;");
        CHECK.bounds("set(?, 1) of two", 0, 1, i -> x.set(i, 1));
        CHECK.bounds("set(0, ?)", 0, 3, v -> x.set(0, v));
        CHECK.bounds("set(?, 1) of sixteen", 0, 15, i -> CHECK.told(SIXTEEN).set(i, 1));
        CHECK.takesNone("set(?, 0) of none", i -> new CoilWheels().set(i, 0));
        x.cut(1);
        CHECK.bounds("set(?, 1) of one that is not cut", 0, 0, i -> x.set(i, 1));
        String before = Check.stateOf(x);
        x.set(0, 4);
        x.set(0, -1);
        x.set(1, 0);
        CHECK.stays("set refused", before, x);
    }

    private static void every() {
        CHECK.says(12, "EVERY becomes v: what it was.", "BAD.");
        CoilWheels x = new CoilWheels();
        CHECK.due("every(9)", x.every(9), 1);
        CHECK.due("every(1)", x.every(1), 9);
        CHECK.due("every(4)", x.every(4), 1);
        CHECK.due("every(4) again", x.every(4), 4);
        CHECK.due("every(0)", x.every(0), Check.BAD);
        CHECK.due("every(10)", x.every(10), Check.BAD);
        CHECK.due("rule(3): what is refused leaves it", x.rule(3), 4);
        CHECK.bounds("every(?)", 1, 9, x::every);
    }

    private static void add() {
        CHECK.says(13, "A SIGN more, behind all others: how many there are.");
        CoilWheels x = new CoilWheels();
        for (int n = 1; n <= 16; n++) {
            CHECK.due("add as sign " + n, x.add(n % 4), n);
            CHECK.due("sign(" + (n - 1) + ")", x.sign(n - 1), n % 4);
        }
        CHECK.row("sign(?)", x::sign, 1, 2, 3, 0, 1, 2, 3, 0, 1, 2, 3, 0, 1, 2, 3, 0, Check.BAD);
        CoilWheels told = CHECK.told("signs 3 3;");
        CHECK.due("add(0) behind two", told.add(0), 3);
        CHECK.row("sign(?) behind two", told::sign, 3, 3, 0, Check.BAD);
    }

    private static void addIsBadOrFull() {
        CHECK.says(13, "BAD; FULL.");
        CHECK.bounds("add(?)", 0, 3, v -> new CoilWheels().add(v));
        CoilWheels x = CHECK.told(SIXTEEN);
        String before = Check.stateOf(x);
        for (int v = 0; v <= 3; v++) {
            CHECK.due("add(" + v + ") as sign 17", x.add(v), Check.FULL);
        }
        CHECK.bounds("add(?) as sign 17: BAD fits first", 0, 3, x::add);
        CHECK.stays("add refused", before, x);
        x.cut(15);
        CHECK.due("add(1) as sign 16", x.add(1), 16);
        CHECK.due("add(1) as sign 17", x.add(1), Check.FULL);
        CHECK.due("sign(15)", x.sign(15), 1);
    }

    private static void cut() {
        CHECK.says(14, "SIGNS are the first n alone: how many there were.");
        CoilWheels x = CHECK.told("signs 3 2 1;");
        CHECK.due("cut(3)", x.cut(3), 3);
        CHECK.row("sign(?) of all", x::sign, 3, 2, 1, Check.BAD);
        CHECK.due("cut(1)", x.cut(1), 3);
        CHECK.row("sign(?) of the first", x::sign, 3, Check.BAD, Check.BAD);
        CHECK.due("add(0)", x.add(0), 2);
        CHECK.row("sign(?): what was cut is gone", x::sign, 3, 0, Check.BAD);
        CHECK.due("cut(0)", x.cut(0), 2);
        CHECK.due("rule(1)", x.rule(1), 0);
        CHECK.due("cut(0) of none", x.cut(0), 0);
        CHECK.due("cut(16) of sixteen", CHECK.told(SIXTEEN).cut(16), 16);
        CHECK.due("cut(0) of sixteen", CHECK.told(SIXTEEN).cut(0), 16);
    }

    private static void cutIsBad() {
        CHECK.says(14, "BAD.");
        CHECK.bounds("cut(?) of three", 0, 3, n -> CHECK.told("signs 3 2 1;").cut(n));
        CHECK.bounds("cut(?) of none", 0, 0, n -> new CoilWheels().cut(n));
        CHECK.bounds("cut(?) of sixteen", 0, 16, n -> CHECK.told(SIXTEEN).cut(n));
        CoilWheels x = CHECK.told("signs 3 2 1;");
        CHECK.due("cut(1)", x.cut(1), 3);
        CHECK.due("cut(2): there is one", x.cut(2), Check.BAD);
        CHECK.due("rule(1): what is refused leaves it", x.rule(1), 1);
    }
}
