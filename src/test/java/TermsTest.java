import java.util.Set;
import java.util.TreeSet;

/** The terms that several promises share: the answers, FIELD, OFF, LOST, SLIPS, MOVES, A TICK, BY TICKS, ALL LOST. */
public final class TermsTest {
    private static final Check CHECK = new Check();
    private static final int TERMS = Check.TERMS;
    private static final String[] KINDS = {"plain", "quick", "heavy", "stiff"};
    /** OFF, by what FIELD less the place leaves by 8. */
    private static final int[] OFFS = {0, 1, 2, 3, 4, -3, -2, -1};
    /** By KIND, then by OFF 1, 2, 3 without sign: by how many places it moves if its WAY is that side, if not. */
    private static final int[][] GOING = {{1, 1, 1}, {1, 2, 2}, {1, 1, 1}, {0, 1, 1}};
    private static final int[][] STANDING = {{1, 1, 1}, {1, 2, 2}, {0, 0, 0}, {0, 0, 0}};
    /** Likewise: whether its WAY is that side then. */
    private static final int[][] SIDES = {{1, 1, 1}, {1, 1, 1}, {1, 1, 1}, {0, 1, 1}};

    public static void main(String[] args) {
        constants();
        field();
        signs();
        every();
        tick();
        rotors();
        off();
        lost();
        slips();
        moves();
        ways();
        signOfATick();
        signsWrapAround();
        fieldBySigns();
        slipsOrOffZero();
        tickIsOneMore();
        byTicks();
        allLost();
        lastCall();
        CHECK.finish();
    }

    private static void constants() {
        CHECK.says(TERMS, "Answers: BAD -1 (a number is not as told, there is no such ROTOR, SIGN, IMAGE, SHEET), STATE -2 (as told), "
            + "FULL -3, NONE -4 (there is none), the first that fits;");
        CHECK.due("BAD", CoilWheels.BAD, -1);
        CHECK.due("STATE", CoilWheels.STATE, -2);
        CHECK.due("FULL", CoilWheels.FULL, -3);
        CHECK.due("NONE", CoilWheels.NONE, -4);
        // What is BAD besides: RefusedTest holds every call to it, in every state.
        CoilWheels x = CHECK.told("plain 1 0;signs 1;");
        CHECK.due("no such ROTOR", x.rotor(1, 0), -1);
        CHECK.due("no such SIGN", x.sign(1), -1);
        CHECK.due("no such IMAGE", x.keep(2), -1);
        CHECK.due("no such SHEET", x.lay(4, 0, 0), -1);
        CHECK.due("a number is not as told", x.feed(128), -1);
        CHECK.due("back(0)", x.back(0), -2);
        CHECK.due("count(3)", x.count(3), -4);
        Check.feed(x, " ".repeat(160));
        CHECK.due("feed(32)", x.feed(32), -3);
        CHECK.due("feed(128): BAD fits first", x.feed(128), -1);
        CHECK.due("back(2): BAD fits first", x.back(2), -1);
    }

    private static void field() {
        CHECK.says(TERMS, "1 FIELD: a place on an endless line (0 at first); eight places are a TURN.");
        CHECK.due("rule(4) at first", new CoilWheels().rule(4), 100000);
        CHECK.due("rule(4), told", CHECK.told("plain 0 7;signs 3;").rule(4), 100000);
        // It does not come round at 8, nor at 0.
        CHECK.due("rule(4) behind 50 two on", CHECK.run("signs 3;", 50).rule(4), 100100);
        CHECK.due("rule(4) behind 50 back", CHECK.run("signs 2;", 50).rule(4), 99950);
        CHECK.due("OFF a TURN on", CHECK.run("plain 0 0;signs 1;", 8).rotor(0, 4), 10);
        CHECK.due("LOST a TURN on", CHECK.run("plain 0 0;signs 1;", 8).rotor(0, 5), 100001);
        CHECK.due("LOST a TURN back", CHECK.run("plain 0 0;signs 2;", 8).rotor(0, 5), 99999);
    }

    private static void signs() {
        CHECK.says(TERMS, "SIGNS 0 on (16 at most, by order; 0 hold, 1 on, 2 back, 3 two on).");
        CHECK.due("hold", CHECK.run("signs 0;", 1).rule(4), 100000);
        CHECK.due("on", CHECK.run("signs 1;", 1).rule(4), 100001);
        CHECK.due("back", CHECK.run("signs 2;", 1).rule(4), 99999);
        CHECK.due("two on", CHECK.run("signs 3;", 1).rule(4), 100002);
        CoilWheels x = new CoilWheels();
        for (int n = 1; n <= 16; n++) {
            CHECK.due("add as SIGN " + (n - 1), x.add(n % 4), n);
        }
        CHECK.due("add as SIGN 16", x.add(1), Check.FULL);
        CHECK.row("sign(?)", x::sign, 1, 2, 3, 0, 1, 2, 3, 0, 1, 2, 3, 0, 1, 2, 3, 0, Check.BAD);
    }

    private static void every() {
        CHECK.says(TERMS, "EVERY (1 to 9; 1 at first).");
        CHECK.due("rule(3) at first", new CoilWheels().rule(3), 1);
        CHECK.bounds("every(?)", 1, 9, v -> new CoilWheels().every(v));
        for (int v = 1; v <= 9; v++) {
            CHECK.due("every " + v + ": rule(3)", CHECK.told("every " + v + ";").rule(3), v);
        }
    }

    private static void tick() {
        CHECK.says(TERMS, "TICK (0 at first).");
        CHECK.due("rule(2) at first", new CoilWheels().rule(2), 0);
        CHECK.due("rule(2), told", CHECK.told("plain 0 0;signs 1;every 3;").rule(2), 0);
    }

    private static void rotors() {
        CHECK.says(TERMS, "ROTORS 0 on (4 at most, by order), each of a KIND (0 plain, 1 quick, 2 heavy, 3 stiff), "
            + "with a GRIP (0 to 3), AT a place, with a WAY (-1, 0, 1; 0 at first).");
        CoilWheels x = CHECK.told("stiff 0 1;heavy 1 3;quick 2 5;plain 3 7;");
        for (int r = 0; r < 4; r++) {
            int q = r;
            CHECK.row("rotor(" + r + ", ?)", what -> x.rotor(q, what), 3 - r, r, 100001 + 2 * r, 10);
        }
        CHECK.due("rotor(4, 0)", x.rotor(4, 0), Check.BAD);
        CHECK.due("a WAY on", CHECK.run("plain 1 0;signs 1;", 1).rotor(0, 3), 11);
        CHECK.due("a WAY back", CHECK.run("plain 1 0;signs 2;", 1).rotor(0, 3), 9);
    }

    private static void off() {
        CHECK.says(TERMS, "OFF of a ROTOR: FIELD less its place, so many whole TURNS more or less that it is -3 to 4.");
        for (int field = -20; field <= 20; field++) {
            for (int place = 0; place < 8; place++) {
                CoilWheels x = standing(field, place);
                CHECK.due("10 more than OFF by FIELD " + field + ", place " + place,
                    x.rotor(0, 4), 10 + OFFS[Math.floorMod(field - place, 8)]);
                x.turn(0, 0);
                CHECK.due("the same a TURN back", x.rotor(0, 4), 10 + OFFS[Math.floorMod(field - place, 8)]);
            }
        }
        CHECK.due("the greatest: 4", standing(4, 0).rotor(0, 4), 14);
        CHECK.due("one more: -3", standing(5, 0).rotor(0, 4), 7);
        CHECK.due("the least: -3", standing(-3, 0).rotor(0, 4), 7);
        CHECK.due("one less: 4", standing(-4, 0).rotor(0, 4), 14);
    }

    private static void lost() {
        CHECK.says(TERMS, "LOST: FIELD less its place less OFF, by 8.");
        // A TURN is lost from 5 places on, back from 4 places on.
        int[][] ranges = {{-28, -28, -4}, {-27, -20, -3}, {-19, -12, -2}, {-11, -4, -1}, {-3, 4, 0}, {5, 12, 1}, {13, 20, 2},
            {21, 28, 3}, {29, 29, 4}};
        for (int[] range : ranges) {
            for (int apart = range[0]; apart <= range[1]; apart++) {
                CHECK.due("100000 more than LOST, " + apart + " apart",
                    standing(apart, 0).rotor(0, 5), 100000 + range[2]);
                CHECK.due("the same from place 7", standing(apart + 7, 7).rotor(0, 5), 100000 + range[2]);
            }
        }
        // Its place, too, may be turns away and below 0.
        CoilWheels x = standing(0, 0);
        for (int turns = 1; turns <= 5; turns++) {
            x.turn(0, 0);
            CHECK.due("LOST, " + turns + " turned back", x.rotor(0, 5), 100000 + turns);
        }
        x.turn(0, 4);
        CHECK.due("LOST, half a TURN further back, OFF 4", x.rotor(0, 5), 100005);
        x.turn(0, 7);
        CHECK.due("LOST, a place further back, OFF -3", x.rotor(0, 5), 100006);
    }

    private static void slips() {
        CHECK.says(TERMS, "It SLIPS, if OFF without sign is more than its GRIP.");
        for (int v = 0; v < 8; v++) {
            for (int grip = 0; grip < 4; grip++) {
                for (int r = 0; r < 4; r++) {
                    CoilWheels x = CHECK.told("plain 0 0;plain 0 0;plain 0 0;plain 0 0;");
                    x.turn(r, 8 - v);
                    x.alter(r, 1, grip);
                    int want = Math.abs(OFFS[v]) > grip ? 1 << r : 0;
                    CHECK.due("rule(5) by OFF " + OFFS[v] + ", GRIP " + grip + " of ROTOR " + r, x.rule(5), want);
                }
            }
        }
        CHECK.due("rule(5): all slip", CHECK.told("plain 0 1;quick 1 2;heavy 2 3;stiff 3 4;").rule(5), 15);
        CHECK.due("rule(5): none slips", CHECK.told("plain 0 0;quick 1 1;heavy 2 2;stiff 3 3;").rule(5), 0);
    }

    /** Each KIND by each OFF and each WAY that can be, and by each GRIP. */
    private static void moves() {
        CHECK.says(TERMS, "MOVES by KIND, from OFF that is not 0 (its side: -1 below 0, else 1): plain 1 place to that side; "
            + "quick as a plain one, twice, if OFF is more than 1 without sign; heavy as a plain one, if its WAY is that side, else not; "
            + "stiff as a heavy one, but not, if OFF is 1 without sign.");
        Set<String> met = new TreeSet<>();
        for (int first = 0; first < 4; first++) {
            for (int place = 0; place < 8; place++) {
                for (int kind = 0; kind < 4; kind++) {
                    for (int grip = 0; grip < 4; grip++) {
                        for (int sign = 0; sign < 4; sign++) {
                            met.add(kind + " " + grip + " " + move(first, place, kind, grip, sign));
                        }
                    }
                }
            }
        }
        // WAY 0 by all OFFS, WAY 1 by -3 and -1 to 4, WAY -1 by -3 to 2 and 4: 7 of each.
        CHECK.due("how many KINDS, GRIPS, OFFS, WAYS were met", met.size(), 4 * 4 * (8 + 7 + 7));
    }

    /** Lets a ROTOR get a WAY as one KIND, then move as another: the OFF and WAY by which it did. */
    private static String move(int first, int place, int kind, int grip, int sign) {
        CoilWheels x = CHECK.told(KINDS[first] + " 3 " + place + ";signs 0 " + sign + ";");
        checkMove(x, first, 3, 0);
        x.alter(0, 0, kind);
        x.alter(0, 1, grip);
        return checkMove(x, kind, grip, new int[] {0, 1, -1, 2}[sign]);
    }

    private static String checkMove(CoilWheels x, int kind, int grip, int led) {
        int place = x.rotor(0, 2) - 100000;
        int way = x.rotor(0, 3) - 10;
        int off = OFFS[Math.floorMod(x.rule(4) - 100000 + led - place, 8)];
        int apart = Math.abs(off);
        int side = off < 0 ? -1 : 1;
        boolean goes = apart != 0 && apart <= grip;
        int steps = goes ? (way == side ? GOING : STANDING)[kind][apart - 1] : 0;
        String label = KINDS[kind] + " by GRIP " + grip + ", OFF " + off + ", WAY " + way;
        CHECK.due(label + ": ticks(1)", x.ticks(1), steps);
        CHECK.due(label + ": its place", x.rotor(0, 2), 100000 + place + side * steps);
        CHECK.due(label + ": its WAY", x.rotor(0, 3), 10 + (goes ? side * SIDES[kind][apart - 1] : 0));
        return off + " " + way;
    }

    private static void ways() {
        CHECK.says(TERMS, "WAY then: plain, quick, heavy that side; stiff as a heavy one, but 0, if OFF is 1 without sign.");
        for (int kind = 0; kind < 4; kind++) {
            for (int place = 0; place < 8; place++) {
                CoilWheels x = CHECK.run(KINDS[kind] + " 3 " + place + ";", 1);
                int off = OFFS[Math.floorMod(-place, 8)];
                int way = off == 0 || off == 4 || kind == 3 && Math.abs(off) == 1 ? 0 : off < 0 ? -1 : 1;
                CHECK.due(KINDS[kind] + " by OFF " + off + ": 10 more than its WAY", x.rotor(0, 3), 10 + way);
            }
        }
        // A stiff one that was going loses its WAY one place off.
        CoilWheels stiff = CHECK.run("stiff 3 3;", 3);
        CHECK.due("stiff: its place", stiff.rotor(0, 2), 100001);
        CHECK.due("stiff: its WAY", stiff.rotor(0, 3), 9);
        stiff.ticks(1);
        CHECK.due("stiff: its place stays", stiff.rotor(0, 2), 100001);
        CHECK.due("stiff: its WAY is gone", stiff.rotor(0, 3), 10);
    }

    private static void signOfATick() {
        CHECK.says(TERMS, "2 A TICK: if EVERY divides TICK and there are SIGNS, the SIGN whose number TICK by EVERY (down) leaves "
            + "by how many there are is done:");
        leads(CHECK.told("signs 1 3 0 2 2;"), 1, 3, 3, 2, 1, 2, 4, 4, 3, 2);
        CoilWheels slow = CHECK.told("signs 1 3 2;every 3;");
        leads(slow, 1, 1, 1, 3, 3, 3, 2, 2, 2, 3);
        // TICK is 10 now: 10 by 2 leaves 2 by 3, 12 by 2 leaves 0; 7 divides 14, and 14 by 7 leaves 2.
        slow.every(2);
        leads(slow, 2, 2, 3, 3);
        slow.every(7);
        leads(slow, 2);
        slow.cut(0);
        leads(slow, 2, 2);
        CHECK.due("TICKS without SIGNS are TICKS", slow.rule(2), 17);
        // TICK 17 by 1 leaves 0 by one SIGN; with two, TICK 18 leaves 0, 19 leaves 1.
        slow.every(1);
        slow.add(3);
        leads(slow, 4);
        slow.add(2);
        leads(slow, 6, 5);
        // EVERY 9: TICKS 0, 9, 18 alone.
        leads(CHECK.told("signs 1 2 3;every 9;"), 1, 1, 1, 1, 1, 1, 1, 1, 1, 0, 0, 0, 0, 0, 0, 0, 0, 0, 2);
    }

    private static void signsWrapAround() {
        CHECK.says(TERMS, "leaves by how many there are is done:");
        // All sixteen, each once, and the first again.
        leads(CHECK.told("signs 1 1 2 3 1 0 0 1 2 2 2 1 3 3 1 2;"),
            1, 2, 1, 3, 4, 4, 4, 5, 4, 3, 2, 3, 5, 7, 8, 7, 8, 9, 8);
        CoilWheels x = CHECK.run("signs 0 0 0 0 0 0 0 0 0 0 0 0 0 0 0 3;", 15);
        leads(x, 2, 2, 2);
        CoilWheels one = CHECK.told("signs 2;");
        leads(one, -1, -2, -3);
        // At the last TICK that there is: 9998 leaves 2 by 4.
        CoilWheels late = CHECK.told("signs 0 0 1 0;");
        Check.runTo(late, 9998);
        int before = late.rule(4);
        late.ticks(1);
        CHECK.due("FIELD behind TICK 9998", late.rule(4), before + 1);
    }

    private static void fieldBySigns() {
        CHECK.says(TERMS, "FIELD is by 0, 1 more, 1 less, 2 more.");
        leads(CHECK.told("signs 0 1 2 3;"), 0, 1, 0, 2, 2, 3, 2, 4);
        leads(CHECK.told("signs 2 2 3 1;"), -1, -2, 0, 1);
        leads(CHECK.told("signs 2 3;"), -1, 1, 0, 2);
    }

    private static void slipsOrOffZero() {
        CHECK.says(TERMS, "Then each ROTOR: SLIPS it, or is OFF 0, its WAY is 0; else it MOVES, and has its WAY by the OFF "
            + "and the WAY that it had.");
        // The FIELD goes first: at OFF 0 before, it is pulled in the same TICK.
        CHECK.due("ticks(1)", CHECK.told("plain 1 0;signs 1;").ticks(1), 1);
        // Going, then OFF 0: FIELD 1, 1, 1.
        CoilWheels home = CHECK.told("heavy 1 0;signs 1 0 0 1;");
        follows(home, new int[] {0, 1, 1, 1}, new int[] {1, 1, 0, 1});
        // Going, then slipping: FIELD 1, 2, 1, 2.
        CoilWheels slipping = CHECK.told("heavy 1 0;signs 1 1 2;");
        follows(slipping, new int[] {0, 0, 0, 0}, new int[] {1, 0, 1, 0});
        // By OFF as it was: quick from 3 lands at 1, its WAY is on; by WAY as it was: set going back, not moved.
        CoilWheels turned = CHECK.told("heavy 3 0;signs 1 1 0 2 2 2;");
        follows(turned, new int[] {0, 1, 2, 2, 1, 0}, new int[] {1, 1, 1, -1, -1, -1});
        // All of them, each by itself: plain and quick go, heavy is set going, stiff at OFF 1 stays, by order or not.
        CoilWheels all = CHECK.run("stiff 3 0;heavy 3 0;quick 3 0;plain 3 0;signs 1;", 1);
        int[] places = {100000, 100000, 100001, 100001};
        int[] ways = {10, 11, 11, 11};
        for (int r = 0; r < 4; r++) {
            CHECK.due("all: rotor(" + r + ", 2)", all.rotor(r, 2), places[r]);
            CHECK.due("all: rotor(" + r + ", 3)", all.rotor(r, 3), ways[r]);
        }
    }

    private static void tickIsOneMore() {
        CHECK.says(TERMS, "TICK is 1 more.");
        for (String text : new String[] {"", "signs 1;", "plain 0 0;", "stiff 1 2;signs 2;every 9;"}) {
            CoilWheels x = CHECK.told(text);
            for (int n = 1; n <= 20; n++) {
                x.ticks(1);
                CHECK.due("rule(2) behind " + n + " of '" + text + "'", x.rule(2), n);
            }
        }
    }

    private static void byTicks() {
        CHECK.says(TERMS, "BY TICKS: as it would be from now on.");
        String text = "plain 2 1;quick 3 6;heavy 3 3;stiff 3 0;signs 1 3 1 2 0;every 2;";
        for (int on = 0; on <= 100; on += 10) {
            int n = on;
            CoilWheels x = CHECK.run(text, 13);
            CoilWheels y = CHECK.run(text, 13);
            int moved = y.ticks(n);
            CHECK.row("runs(" + n + ", ?)", what -> x.runs(n, what), moved, y.rule(4), y.rule(6));
            for (int r = 0; r < 4; r++) {
                CHECK.due("ahead(" + r + ", " + n + ", 0)", x.ahead(r, n, 0), y.rotor(r, 2));
                CHECK.due("ahead(" + r + ", " + n + ", 1)", x.ahead(r, n, 1), y.rotor(r, 5));
            }
            CHECK.due("rule(2): nothing is done", x.rule(2), 13);
        }
        // What is to come may lie behind the last TICK that ticks() would do.
        CoilWheels last = CHECK.told("plain 1 0;signs 1;");
        Check.runTo(last, 9999);
        CHECK.row("at the last TICK: runs(200, ?)", what -> last.runs(200, what), 200, 110199, 0, 0);
        CHECK.due("at the last TICK: ahead(0, 200, 0)", last.ahead(0, 200, 0), 110199);
    }

    private static void allLost() {
        CHECK.says(TERMS, "ALL LOST: LOST of all ROTORS, without signs, summed.");
        CHECK.due("rule(6) of none", new CoilWheels().rule(6), 0);
        CoilWheels x = CHECK.told("plain 0 0;plain 0 0;plain 0 0;plain 0 0;");
        CHECK.due("rule(6) of nothing lost", x.rule(6), 0);
        x.turn(0, 0);
        CHECK.due("rule(6) of 1", x.rule(6), 1);
        x.turn(3, 16);
        x.turn(3, 16);
        CHECK.due("rule(6) of 1 and -2", x.rule(6), 3);
        x.turn(1, 16);
        x.turn(2, 0);
        CHECK.due("rule(6) of 1, -1, 1, -2", x.rule(6), 5);
        CHECK.due("runs(0, 2)", x.runs(0, 2), 5);
    }

    private static void lastCall() {
        // "An object is used for at most 512 calls after it has been made": the 512th is answered as the first.
        CoilWheels x = new CoilWheels();
        Check.feed(x, "plain 3 0;signs 1;");
        x.text();
        for (int call = 20; call < 512; call++) {
            x.turn(0, 8);
        }
        CHECK.due("the 512th call", x.runs(200, 1), 100200);
    }

    /** FIELD at a place, and a ROTOR without grip that stays at another. */
    private static CoilWheels standing(int field, int place) {
        return CHECK.run("plain 0 " + place + ";signs " + (field < 0 ? 2 : 1) + ";", Math.abs(field));
    }

    /** FIELD behind one TICK after another. */
    private static void leads(CoilWheels x, int... want) {
        for (int i = 0; i < want.length; i++) {
            x.ticks(1);
            CHECK.due("FIELD behind TICK " + (i + 1) + " of " + want.length, x.rule(4), 100000 + want[i]);
        }
    }

    /** Place and WAY of ROTOR 0 behind one TICK after another. */
    private static void follows(CoilWheels x, int[] places, int[] ways) {
        for (int i = 0; i < places.length; i++) {
            x.ticks(1);
            String label = KINDS[x.rotor(0, 0)] + " behind TICK " + (i + 1);
            CHECK.due(label + ": place", x.rotor(0, 2), 100000 + places[i]);
            CHECK.due(label + ": way", x.rotor(0, 3), 10 + ways[i]);
        }
    }
}
