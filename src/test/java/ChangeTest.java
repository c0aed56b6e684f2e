/** Promises 9 to 14: alter, turn, set, every, add, cut. */
public final class ChangeTest {
    private static final Check CHECK = new Check();

    public static void main(String[] args) {
        alter();
        turn();
        set();
        every();
        add();
        cut();
        CHECK.finish();
    }

    private static void alter() {
        CoilWheels x = CHECK.told("plain 1 0;stiff 3 1;signs 1;");
        x.ticks(1);
        String before = Check.stateOf(x);
        CHECK.due("alter(2, 0, 0)", x.alter(2, 0, 0), Check.BAD);
        CHECK.due("alter(-1, 0, 0)", x.alter(-1, 0, 0), Check.BAD);
        CHECK.due("alter(0, 2, 0)", x.alter(0, 2, 0), Check.BAD);
        CHECK.due("alter(0, -1, 0)", x.alter(0, -1, 0), Check.BAD);
        for (int what = 0; what <= 1; what++) {
            CHECK.due("alter(0, " + what + ", 4)", x.alter(0, what, 4), Check.BAD);
            CHECK.due("alter(0, " + what + ", -1)", x.alter(0, what, -1), Check.BAD);
        }
        CHECK.stays("alter refused", before, x);
        CHECK.due("rotor(0, 3)", x.rotor(0, 3), 11);
        CHECK.due("alter(0, 0, 2)", x.alter(0, 0, 2), 0);
        CHECK.due("alter(0, 0, 3)", x.alter(0, 0, 3), 2);
        CHECK.due("alter(0, 1, 3)", x.alter(0, 1, 3), 1);
        CHECK.due("alter(1, 1, 0)", x.alter(1, 1, 0), 3);
        CHECK.due("alter(1, 0, 0)", x.alter(1, 0, 0), 3);
        CHECK.due("alter(1, 0, 0) again", x.alter(1, 0, 0), 0);
        CHECK.due("rotor(0, 0)", x.rotor(0, 0), 3);
        CHECK.due("rotor(0, 1)", x.rotor(0, 1), 3);
        CHECK.due("rotor(1, 0)", x.rotor(1, 0), 0);
        CHECK.due("rotor(1, 1)", x.rotor(1, 1), 0);
        CHECK.due("rotor(0, 3): its way stays", x.rotor(0, 3), 11);
        CHECK.due("rotor(0, 2): its place stays", x.rotor(0, 2), 100001);
    }

    private static void turn() {
        CoilWheels x = CHECK.told("plain 1 0;plain 1 1;signs 1;");
        x.ticks(1);
        String before = Check.stateOf(x);
        CHECK.due("turn(2, 8)", x.turn(2, 8), Check.BAD);
        CHECK.due("turn(-1, 8)", x.turn(-1, 8), Check.BAD);
        CHECK.due("turn(0, 17)", x.turn(0, 17), Check.BAD);
        for (int v : Check.EXTREMES) {
            CHECK.due("turn(0, " + v + ")", x.turn(0, v), Check.BAD);
        }
        CHECK.stays("turn refused", before, x);
        CHECK.due("rotor(0, 3)", x.rotor(0, 3), 11);
        CHECK.due("turn(0, 8)", x.turn(0, 8), 100001);
        CHECK.due("rotor(0, 3): its way is 0", x.rotor(0, 3), 10);
        CHECK.due("turn(0, 16)", x.turn(0, 16), 100009);
        CHECK.due("turn(0, 0)", x.turn(0, 0), 100001);
        CHECK.due("turn(0, 0) again", x.turn(0, 0), 99993);
        CHECK.due("rotor(0, 2)", x.rotor(0, 2), 99993);
        CHECK.due("rotor(1, 2): the other stays", x.rotor(1, 2), 100001);
        turnToTheLimit(16, 100000 + 30000);
        turnToTheLimit(0, 100000 - 30000);
    }

    /** The limit lies further off than 512 calls can turn; the code is held to it all the same. */
    private static void turnToTheLimit(int v, int limit) {
        CoilWheels x = CHECK.told("plain 1 0;");
        for (int i = 0; i < 3749; i++) {
            x.turn(0, v);
        }
        CHECK.due("turn(0, " + v + ") to the limit", x.turn(0, v), limit);
        String before = Check.stateOf(x);
        CHECK.due("turn a place beyond", x.turn(0, v == 0 ? 7 : 9), Check.FULL);
        CHECK.due("turn beyond", x.turn(0, v), Check.FULL);
        CHECK.due("turn(0, 17) is bad first", x.turn(0, 17), Check.BAD);
        CHECK.stays("turn beyond", before, x);
        CHECK.due("turn(0, 8) at the limit", x.turn(0, 8), limit);
    }

    private static void set() {
        CoilWheels x = CHECK.told("signs 3 2;");
        String before = Check.stateOf(x);
        CHECK.due("set(2, 0)", x.set(2, 0), Check.BAD);
        CHECK.due("set(0, 4)", x.set(0, 4), Check.BAD);
        for (int v : Check.EXTREMES) {
            CHECK.due("set(" + v + ", 0)", x.set(v, 0), Check.BAD);
            CHECK.due("set(0, " + v + ")", x.set(0, v), Check.BAD);
        }
        CHECK.stays("set refused", before, x);
        CHECK.due("set(0, 0)", x.set(0, 0), 3);
        CHECK.due("set(1, 3)", x.set(1, 3), 2);
        CHECK.due("set(0, 1)", x.set(0, 1), 0);
        CHECK.due("sign(0)", x.sign(0), 1);
        CHECK.due("sign(1)", x.sign(1), 3);
    }

    private static void every() {
        CoilWheels x = new CoilWheels();
        CHECK.due("every(0)", x.every(0), Check.BAD);
        CHECK.due("every(10)", x.every(10), Check.BAD);
        for (int v : Check.EXTREMES) {
            CHECK.due("every(" + v + ")", x.every(v), Check.BAD);
        }
        CHECK.due("every(9)", x.every(9), 1);
        CHECK.due("every(1)", x.every(1), 9);
        CHECK.due("every(4)", x.every(4), 1);
        CHECK.due("rule(3)", x.rule(3), 4);
    }

    private static void add() {
        CoilWheels x = new CoilWheels();
        CHECK.due("add(4)", x.add(4), Check.BAD);
        for (int v : Check.EXTREMES) {
            CHECK.due("add(" + v + ")", x.add(v), Check.BAD);
        }
        for (int n = 1; n <= 16; n++) {
            CHECK.due("add as sign " + n, x.add(n % 4), n);
        }
        CHECK.due("add(4) as sign 17", x.add(4), Check.BAD);
        CHECK.due("add(0) as sign 17", x.add(0), Check.FULL);
        CHECK.due("rule(1)", x.rule(1), 16);
        for (int i = 0; i < 16; i++) {
            CHECK.due("sign(" + i + ")", x.sign(i), (i + 1) % 4);
        }
    }

    private static void cut() {
        CoilWheels x = CHECK.told("signs 3 2 1;");
        CHECK.due("cut(4)", x.cut(4), Check.BAD);
        for (int n : Check.EXTREMES) {
            CHECK.due("cut(" + n + ")", x.cut(n), Check.BAD);
        }
        CHECK.due("cut(3)", x.cut(3), 3);
        CHECK.due("cut(1)", x.cut(1), 3);
        CHECK.due("sign(0)", x.sign(0), 3);
        CHECK.due("sign(1)", x.sign(1), Check.BAD);
        CHECK.due("cut(2)", x.cut(2), Check.BAD);
        CHECK.due("add(0)", x.add(0), 2);
        CHECK.due("cut(0)", x.cut(0), 2);
        CHECK.due("cut(0) of none", x.cut(0), 0);
        CHECK.due("rule(1)", x.rule(1), 0);
    }
}
