import java.util.LinkedHashMap;
import java.util.Map;
import java.util.function.Supplier;

/** What a call changes is what the document tells of it, and nothing else of all that an object can tell. */
public final class NothingElseTest {
    private static final Check CHECK = new Check();
    /** What an IMAGE holds, and what follows from it. */
    private static final String ALL = "ROTORS, SIGNS, TICK, EVERY, FIELD, SIGN, KIND, GRIP, PLACE, WAY, SEEN, AHEAD";
    private static final String NOTHING = "";

    private final String name;
    private final Supplier<CoilWheels> object;
    private final Map<String, String> before;

    private NothingElseTest(String name, Supplier<CoilWheels> object) {
        this.name = name;
        this.object = object;
        before = Parts.of(object.get());
    }

    public static void main(String[] args) {
        Map<String, Supplier<CoilWheels>> objects = new LinkedHashMap<>();
        objects.put("nothing", CoilWheels::new);
        objects.put("something", Samples::something);
        objects.put("full", Samples::full);
        objects.put("below", Samples::below);
        objects.put("busy", Samples::busy);
        objects.put("losing", Samples::losing);
        objects.forEach((name, object) -> new NothingElseTest(name, object).all());
        new Busy().isAsTold();
        CHECK.finish();
    }

    /** What is told of an object is as it was made, so that no call has changed it on the way. */
    private static final class Busy {
        private static final int NO = Check.BAD;
        private final Map<String, String> left = Parts.of(Samples.busy());

        void isAsTold() {
            CHECK.says(Check.TERMS, "what is refused changes nothing (but THE TAPE, as told).");
            row("FAULT", 2);
            row("TORN", 3);
            row("IMAGES", 2);
            drive("", 2, 100002, 5);
            rotors("", new int[] {2, 2, 3, 0}, new int[] {3, 3, 3, 2});
            row("PLACE ?", 100004, 100002, 99996, 99994);
            row("WAY ?", 9, 11, 9, 11);
            told("AHEAD", "46 100009 2 0 15 15 255 15 15 231 12 12 131 7 14 207 ");
            told("SEEN", "3: 0 0 0 0; 3: 0 0 0 0; 2: 0 0 8 0; 1: 255 255 255 255; ");
            row("IMAGE ? back", 0, 1);
            drive("IMAGE 0 ", 0, 100000, 5);
            drive("IMAGE 1 ", 1, 100002, 5);
            rotors("IMAGE 0 ", new int[] {2, 2, 3, 0}, new int[] {3, 3, 3, 2});
            rotors("IMAGE 1 ", new int[] {2, 2, 3, 0}, new int[] {3, 3, 3, 2});
            row("IMAGE 0 PLACE ?", 100005, 100001, 99997, 100000);
            row("IMAGE 0 WAY ?", 10, 10, 10, 10);
            row("IMAGE 1 PLACE ?", 100005, 100001, 99997, 99993);
            row("IMAGE 1 WAY ?", 9, 11, 9, 10);
            told("IMAGE 0 AHEAD", "46 100007 1 0 12 15 1 15 14 255 15 15 255 15 15 255 ");
            told("IMAGE 1 AHEAD", "46 100009 2 0 0 7 0 0 0 0 0 0 0 0 0 0 ");
            told("IMAGE 0 SEEN", "2: 0 0 0 0; 2: 32 0 0 0; 1: 255 255 255 255; ");
            told("IMAGE 1 SEEN", "3: 0 0 0 0; 3: 0 0 0 0; 2: 32 0 0 0; 1: 255 255 255 255; ");
            for (String name : new String[] {"", "IMAGE 0 ", "IMAGE 1 "}) {
                row(name + "SIGN ?", 3, 1, 2, 2, 1, 3, 3, 2, 1, 1, 3, 2, 3, 1, 2, NO);
                row(name + "SIGNS", 15);
                row(name + "ROTORS", 4);
            }
            tape();
            sheets();
            CHECK.same("busy: what else is told", left.toString(), "{}");
        }

        private void tape() {
            row("TAPE", 40);
            told("TAPE text", "4 0");
            drive("TAPE ", 0, 100000, 3);
            row("TAPE SIGNS", 3);
            row("TAPE SIGN ?", 3, 2, 1, NO, NO, NO, NO, NO, NO, NO, NO, NO, NO, NO, NO, NO);
            row("TAPE ROTORS", 2);
            rotors("TAPE ", new int[] {1, 3, NO, NO}, new int[] {2, 3, NO, NO});
            row("TAPE PLACE ?", 100005, 100003, NO, NO);
            row("TAPE WAY ?", 10, 10, NO, NO);
            told("TAPE AHEAD", "28 100011 0 9 15 15 255 15 15 255 -1 -1 -1 -1 -1 -1 ");
            told("TAPE SEEN", "0: 255 255 -1 -1; ");
        }

        private void sheets() {
            String[] pairs = {" 1/1=2,1/1=2,", " 1/2=3,1/,", " 1/3=1,1/3=1,"};
            for (int k = 0; k < 4; k++) {
                StringBuilder cells = new StringBuilder();
                for (int f = 0; f < 39; f++) {
                    String pair = k == 3 && f == 10 ? " -20/,-20/," : pairs[(f + k) % 3];
                    cells.append(f < 11 ? pair : " 0/,0/,");
                }
                StringBuilder lanes = new StringBuilder("12 CELLS");
                for (int lane = 0; lane <= 2; lane++) {
                    lanes.append(" lane ").append(lane).append(lane == k % 3 ? " 0" + cells : " 3");
                }
                told("SHEET " + k, lanes.toString());
            }
        }

        private void drive(String name, int tick, int field, int every) {
            row(name + "TICK", tick);
            row(name + "FIELD", field);
            row(name + "EVERY", every);
        }

        private void rotors(String name, int[] kinds, int[] grips) {
            row(name + "KIND ?", kinds);
            row(name + "GRIP ?", grips);
        }

        private void row(String name, int... want) {
            for (int i = 0; i < want.length; i++) {
                told(name.replace("?", String.valueOf(i)), String.valueOf(want[i]));
            }
        }

        private void told(String name, String want) {
            CHECK.same("busy: " + name, String.valueOf(left.remove(name)), want);
        }
    }

    private void all() {
        CHECK.same(name + ": told twice", Parts.of(object.get()).toString(), before.toString());
        theText();
        whatIsChanged();
        ticks();
        whatIsBest();
        coilsThatFail();
        whereTheyWereSeen();
        bySeed();
        images();
        sheets();
    }

    private void theText() {
        CHECK.says(2, "A byte (0 to 127) comes behind THE TAPE: how many it has.");
        changes("TAPE", "feed", ' ');
        changes("TAPE", "feed", 'x');
        CHECK.says(3, "THE TAPE keeps its first n bytes: how many it had.");
        changes("TAPE", "end", 0);
        changes("TAPE", "end", 1);
        CHECK.says(4, "THE TAPE (empty then) tells all: how many lines;");
        changes("TAPE, FAULT, IMAGES, IMAGE, " + ALL, "text");
        CHECK.says(5, "The FAULT of the latest text(); 0.");
        changes(NOTHING, "fault");
        CHECK.says(6, "0 ROTORS, 1 SIGNS, 2 TICK, 3 EVERY,");
        for (int what = 0; what <= 6; what++) {
            changes(NOTHING, "rule", what);
        }
        CHECK.says(7, "Of a ROTOR: 0 KIND, 1 GRIP,");
        for (int what = 0; what <= 5; what++) {
            changes(NOTHING, "rotor", 0, what);
            changes(NOTHING, "rotor", 3, what);
        }
        CHECK.says(8, "A SIGN.");
        changes(NOTHING, "sign", 0);
        changes(NOTHING, "sign", 14);
    }

    private void whatIsChanged() {
        for (int r = 0; r < 4; r++) {
            for (int v = 0; v <= 3; v++) {
                CHECK.says(9, "KIND, GRIP (what 0, 1) of a ROTOR becomes v: what it was.");
                changes("KIND " + r + ", AHEAD", "alter", r, 0, v);
                changes("GRIP " + r + ", AHEAD", "alter", r, 1, v);
            }
            CHECK.says(10, "A ROTOR is turned by hand by v less 8 places (v 0 to 16), its WAY is 0:");
            for (int v = 0; v <= 16; v += 8) {
                changes("PLACE " + r + ", WAY " + r + ", AHEAD", "turn", r, v);
            }
        }
        for (int i = 0; i < 15; i += 7) {
            CHECK.says(11, "A SIGN becomes v: what it was.");
            changes("SIGN " + i + ", AHEAD", "set", i, 0);
            changes("SIGN " + i + ", AHEAD", "set", i, 3);
        }
        CHECK.says(12, "EVERY becomes v: what it was.");
        changes("EVERY, AHEAD", "every", 1);
        changes("EVERY, AHEAD", "every", 9);
        CHECK.says(13, "A SIGN more, behind all others: how many there are.");
        changes("SIGNS, SIGN " + object.get().rule(1) + ", AHEAD", "add", 2);
        CHECK.says(14, "SIGNS are the first n alone: how many there were.");
        changes("SIGNS, SIGN, AHEAD", "cut", 0);
        changes("SIGNS, SIGN 3, SIGN 4, SIGN 5, SIGN 6, SIGN 7, SIGN 8, SIGN 9, SIGN 10, SIGN 11, SIGN 12, SIGN 13, SIGN 14, "
            + "SIGN 15, AHEAD", "cut", 3);
        changes(NOTHING, "cut", object.get().rule(1));
    }

    private void ticks() {
        CHECK.says(15, "n TICKS (0 to 100):");
        changes(NOTHING, "ticks", 0);
        changes("TICK, FIELD, PLACE, WAY, AHEAD", "ticks", 1);
        changes("TICK, FIELD, PLACE, WAY, AHEAD", "ticks", 100);
        for (int n : new int[] {0, 1, 200}) {
            CHECK.says(16, "BY TICKS, n of them (0 to 200):");
            for (int what = 0; what <= 3; what++) {
                changes(NOTHING, "runs", n, what);
            }
            CHECK.says(17, "BY TICKS, n of them (0 to 200):");
            changes(NOTHING, "ahead", 0, n, 0);
            changes(NOTHING, "ahead", 1, n, 1);
        }
        CHECK.says(18, "BY TICKS: behind how many (0 to 200)");
        for (int r = 0; r < 4; r++) {
            changes(NOTHING, "when", r);
        }
    }

    /** For n 5 and 200 there is none for some of them. */
    private void whatIsBest() {
        for (int n : new int[] {0, 5, 200}) {
            for (int r = 0; r < 4; r++) {
                CHECK.says(19, "The least EVERY by which LOST of a ROTOR behind n TICKS (0 to 200) is as now.", "NONE: by none.");
                changes(NOTHING, "slow", r, n);
                CHECK.says(20, "The least GRIP of a ROTOR by which its LOST behind n TICKS (0 to 200) is as now.", "NONE: by none.");
                changes(NOTHING, "need", r, n);
                CHECK.says(21, "The KIND of a ROTOR by which ALL LOST is least behind n TICKS (0 to 200),");
                changes(NOTHING, "kind", r, n, r % 2);
                CHECK.says(24, "By how many places (0 to 7) on a ROTOR had better be turned now (its WAY stays)");
                changes(NOTHING, "begin", r, n, r % 2);
            }
            for (int what = 0; what <= 1; what++) {
                CHECK.says(22, "Two SIGNS that are to change places", "NONE: by none.");
                changes(NOTHING, "swap", n, what);
                CHECK.says(23, "The SIGN that had better be 0", "NONE: none.");
                changes(NOTHING, "ease", n, what);
            }
        }
    }

    private void coilsThatFail() {
        for (int n = 0; n <= 8; n += 4) {
            for (int what = 0; what <= 1; what++) {
                CHECK.says(25, "In each of n TICKS (0 to 8) coils fail by v out of ten (0 to 10), by itself");
                changes(NOTHING, "luck", 3, 1, n, what);
                CHECK.says(26, "Likewise, the mean of by how many places ROTORS move in them: 0, 1.");
                changes(NOTHING, "mean", 3, n, what);
            }
        }
    }

    private void whereTheyWereSeen() {
        CHECK.says(27, "SEEN: behind n TICKS (0 to 40) a ROTOR is AT a place that leaves p by 8: how many are.");
        changes("SEEN, AHEAD", "see", 0, 0, 0);
        changes("SEEN, AHEAD", "see", 40, 3, 7);
        CHECK.says(28, "SEEN are the first n alone: how many there were.");
        changes("SEEN, AHEAD", "forget", 0);
        changes("SEEN, AHEAD", "forget", 1);
        changes(NOTHING, "forget", object.get().count(0));
        for (int r = 0; r < 4; r++) {
            CHECK.says(29, "KINDS of a ROTOR (bits)");
            changes(NOTHING, "kinds", r);
            CHECK.says(30, "GRIPS of a ROTOR (bits)");
            changes(NOTHING, "grips", r);
            CHECK.says(31, "By how many places (bits 0 to 7) on a ROTOR may be now (its WAY as it is)");
            changes(NOTHING, "starts", r);
            CHECK.says(32, "Behind how many TICKS (0 to 40) to look");
            changes(NOTHING, "ask", r, 0);
            changes(NOTHING, "ask", r, 1);
        }
    }

    private void bySeed() {
        CHECK.says(33, "By itself, n TICKS (1 to 200) by a seed:");
        changes(NOTHING, "drift", 7, 1, 0);
        changes(NOTHING, "drift", -1, 200, 1);
    }

    private void images() {
        for (int k = 0; k < 2; k++) {
            CHECK.says(34, "IMAGE k (0, 1) is FIELD, SIGNS (all of them), EVERY, TICK, ROTORS, what was SEEN:");
            changes("IMAGES, IMAGE " + k, "keep", k);
            CHECK.says(35, "All is as IMAGE k: TICK.");
            changes(ALL, "back", k);
        }
    }

    private void sheets() {
        for (int k = 0; k < 4; k++) {
            CHECK.says(36, "A SHEET is a new row of CELLS 0: 1.");
            changes("SHEET " + k, "sheet", k, k % 3, 12);
            changes("SHEET " + k, "sheet", k, (k + 1) % 3, 0);
            CHECK.says(37, "CELL i of a SHEET becomes v (its lowest bits): 1.");
            changes("SHEET " + k, "lay", k, 0, 7);
            changes("SHEET " + k, "lay", k, 11, 7);
            for (int lane = 0; lane <= 2; lane++) {
                CHECK.says(38, "n (0 to 20) times which SIGN, what it is to be are read of a SHEET");
                changes("TORN, SIGN, AHEAD", "read", k, lane, 0, 4);
                changes("TORN, SIGN, AHEAD", "read", k, lane, 8, 4);
                changes("TORN", "read", k, lane, 0, 0);
            }
        }
        CHECK.says(39, "The FAULT of the latest read() that came to an end; 0.");
        changes(NOTHING, "torn");
        CHECK.says(40, "How many: 0 SEEN, 1 IMAGES, 2 bytes on THE TAPE,");
        for (int what = 0; what <= 5; what++) {
            changes(NOTHING, "count", what);
        }
    }

    /** The parts that may be others behind the call, one , between. */
    private void changes(String parts, String call, int... args) {
        CoilWheels x = object.get();
        long answer = Check.answer(x, call, args);
        String label = name + ": " + Check.written(call, args);
        if (name.equals("busy") && (answer == Check.BAD || answer == Check.STATE || answer == Check.FULL)) {
            CHECK.due(label + " is taken", answer, 0);
        }
        Parts.same(CHECK, label, Parts.of(x), before, parts.split(", "));
    }
}
