import java.util.ArrayList;
import java.util.LinkedHashMap;
import java.util.List;
import java.util.Map;
import java.util.function.Supplier;

/**
 * Every call with every number just beyond its bounds, in objects with nothing, with something, with all that there
 * is room for, and below 0: it is BAD whatever else would fit, and all that the object can still tell is as before.
 */
public final class RefusedTest {
    private static final Check CHECK = new Check();
    /** In the rows of bounds(): any number is taken, so that none is tried. */
    private static final int ANY = Integer.MIN_VALUE;

    public static void main(String[] args) {
        Map<String, Supplier<CoilWheels>> objects = new LinkedHashMap<>();
        objects.put("nothing", CoilWheels::new);
        objects.put("something", RefusedTest::something);
        objects.put("full", RefusedTest::full);
        objects.put("below", RefusedTest::below);
        objects.forEach((name, object) -> new RefusedTest(name, object).run());
        CHECK.finish();
    }

    private final String name;
    private final Supplier<CoilWheels> object;
    private final String untouched;
    private int refused;

    private RefusedTest(String name, Supplier<CoilWheels> object) {
        this.name = name;
        this.object = object;
        untouched = allThatIsLeftToTell(object.get());
    }

    private void run() {
        CHECK.says(Check.TERMS, "BAD -1 (a number is not as told, there is no such ROTOR, SIGN, IMAGE, SHEET)", "the first that fits;",
            "what is refused changes nothing (but THE TAPE, as told).");
        for (Object[] row : bounds(object.get())) {
            for (int at = 1; at < row.length; at++) {
                tryBeyond(row, at);
            }
        }
        CHECK.due(name + ": many calls were refused", refused > 500 ? 1 : 0, 1);
        otherwiseRefused();
        faultyText();
        onlyAsked();
    }

    /** The calls that take numbers, with the least and the most of each. */
    private static List<Object[]> bounds(CoilWheels x) {
        int[] r = {0, x.rule(0) - 1};
        int[] i = {0, x.rule(1) - 1};
        int[] ahead = {0, 200};
        int[] two = {0, 1};
        int[] four = {0, 3};
        int[] any = {ANY, ANY};
        return List.of(new Object[] {"feed", new int[] {0, 127}}, new Object[] {"end", new int[] {0, x.count(2)}},
            new Object[] {"rule", new int[] {0, 6}}, new Object[] {"rotor", r, new int[] {0, 5}}, new Object[] {"sign", i},
            new Object[] {"alter", r, two, four}, new Object[] {"turn", r, new int[] {0, 16}}, new Object[] {"set", i, four},
            new Object[] {"every", new int[] {1, 9}}, new Object[] {"add", four}, new Object[] {"cut", new int[] {0, x.rule(1)}},
            new Object[] {"ticks", new int[] {0, 100}}, new Object[] {"runs", ahead, four},
            new Object[] {"ahead", r, ahead, two}, new Object[] {"when", r}, new Object[] {"slow", r, ahead},
            new Object[] {"need", r, ahead}, new Object[] {"kind", r, ahead, two}, new Object[] {"swap", ahead, two},
            new Object[] {"ease", ahead, two}, new Object[] {"begin", r, ahead, two},
            new Object[] {"luck", new int[] {0, 10}, r, new int[] {0, 8}, two},
            new Object[] {"mean", new int[] {0, 10}, new int[] {0, 8}, two},
            new Object[] {"see", new int[] {0, 40}, r, new int[] {0, 7}}, new Object[] {"forget", new int[] {0, x.count(0)}},
            new Object[] {"kinds", r}, new Object[] {"grips", r}, new Object[] {"starts", r}, new Object[] {"ask", r, two},
            new Object[] {"drift", any, new int[] {1, 200}, two}, new Object[] {"keep", two}, new Object[] {"back", two},
            new Object[] {"sheet", four, new int[] {0, 2}, any}, new Object[] {"sheet", four, new int[] {0, 2}, new int[] {ANY, 40}},
            new Object[] {"lay", four, any, any}, new Object[] {"read", four, new int[] {0, 2}, any, new int[] {0, 20}},
            new Object[] {"count", new int[] {0, 5}});
    }

    private void tryBeyond(Object[] row, int at) {
        int[] range = (int[]) row[at];
        List<Integer> beyond = new ArrayList<>();
        if (range[1] != ANY) {
            beyond.add(range[1] + 1);
            beyond.add(Integer.MAX_VALUE);
        }
        if (range[0] != ANY) {
            beyond.add(range[0] - 1);
            beyond.add(Integer.MIN_VALUE);
        }
        for (int v : beyond) {
            for (int end = 0; end <= 1; end++) {
                int[] args = new int[row.length - 1];
                for (int i = 0; i < args.length; i++) {
                    int other = ((int[]) row[i + 1])[end];
                    args[i] = i + 1 == at ? v : Math.max(0, other);
                }
                isRefused(Check.BAD, (String) row[0], args);
            }
        }
    }

    /** Calls whose numbers are as told, but that the state refuses; each only where it does. */
    private void otherwiseRefused() {
        CoilWheels x = object.get();
        if (x.rule(0) == 0) {
            isRefused(Check.STATE, "drift", 1, 200, 0);
        }
        if (x.count(1) == 0) {
            isRefused(Check.STATE, "back", 0);
            isRefused(Check.STATE, "back", 1);
        }
        if (x.count(1) == 1) {
            isRefused(Check.STATE, "back", 1);
        }
        if (x.count(2) == 160) {
            isRefused(Check.FULL, "feed", ' ');
            isRefused(Check.FULL, "feed", ';');
        }
        if (x.rule(1) == 16) {
            isRefused(Check.FULL, "add", 1);
        }
        if (x.rule(2) == 9999) {
            isRefused(Check.FULL, "ticks", 1);
            isRefused(Check.FULL, "ticks", 100);
        }
        if (x.count(0) == 6) {
            isRefused(Check.FULL, "see", 0, 0, 0);
        }
        for (int k = 0; k < 4; k++) {
            isRefused(-14, "sheet", k, 2, -1);
            isRefused(-14, "sheet", k, 0, Integer.MIN_VALUE);
            int fault = name.equals("nothing") || name.equals("something") && k == 3 ? -11 : -12;
            isRefused(fault, "lay", k, 40, 1);
            isRefused(fault, "lay", k, -1, 1);
        }
        if (name.equals("full")) {
            // CELL 36 of it is 36, and there is no such SIGN; those ahead would come.
            isRefused(-20, "read", 3, 2, 36, 1);
            isRefused(-21, "read", 3, 2, 34, 2);
            isRefused(-22, "read", 3, 2, 32, 20);
        }
    }

    /** The one refusal that changes THE TAPE, and what fault() tells. */
    private void faultyText() {
        CoilWheels x = object.get();
        x.end(0);
        CHECK.due(name + ": text() with a FAULT", Check.tell(x, "plain 1 1;signs 3;every 8;every"), -36);
        CHECK.due(name + ": fault()", x.fault(), 4);
        CoilWheels y = object.get();
        y.end(0);
        CHECK.same(name + ": a text with a FAULT", allThatIsLeftToTell(x), allThatIsLeftToTell(y));
    }

    /** Calls that tell, and change nothing though they are taken. */
    private void onlyAsked() {
        CHECK.says(Check.TERMS, "BY TICKS: as it would be from now on.");
        CoilWheels x = object.get();
        for (Object[] row : bounds(x)) {
            String call = (String) row[0];
            boolean changes = List.of("feed", "end", "alter", "turn", "set", "every", "add", "cut", "ticks", "see", "forget", "keep",
                "back", "sheet", "lay", "read").contains(call);
            for (int end = 0; end <= 1 && !changes; end++) {
                int[] args = new int[row.length - 1];
                for (int i = 0; i < args.length; i++) {
                    args[i] = Math.max(0, ((int[]) row[i + 1])[end]);
                }
                Check.answer(x, call, args);
            }
        }
        CHECK.due(name + ": fault() when others were asked", x.fault(), object.get().fault());
        CHECK.same(name + ": what is only asked", allThatIsLeftToTell(x), untouched);
    }

    private void isRefused(int answer, String call, int... args) {
        refused++;
        CoilWheels x = object.get();
        String told = name + ": " + Check.written(call, args);
        CHECK.due(told, Check.answer(x, call, args), answer);
        CHECK.due(told + ": fault() then", x.fault(), object.get().fault());
        CHECK.same(told + " changed something", allThatIsLeftToTell(x), untouched);
    }

    /** All but fault(): asks first, then uses up IMAGES, SHEETS, THE TAPE. */
    private static String allThatIsLeftToTell(CoilWheels x) {
        StringBuilder all = new StringBuilder(Check.stateButFault(x));
        for (int what = 0; what <= 3; what++) {
            all.append(' ').append(x.runs(50, what));
        }
        for (int k = 0; k < 2; k++) {
            all.append(" back ").append(x.back(k)).append(' ').append(Check.stateButFault(x));
        }
        int signs = x.rule(1);
        for (int i = signs; i < 16; i++) {
            x.add(0);
        }
        for (int k = 0; k < 4; k++) {
            for (int lane = 0; lane <= 2; lane++) {
                for (int f = 0; f < 40; f++) {
                    all.append(' ').append(x.read(k, lane, f, 1)).append(x.torn()).append(x.count(5));
                }
            }
        }
        return all.append(" text ").append(x.text()).append(' ').append(Check.stateOf(x)).toString();
    }

    private static CoilWheels something() {
        CoilWheels x = CHECK.run("heavy 3 0;plain 1 3;signs 1 3 2;every 2;", 3);
        x.see(2, 1, 5);
        x.see(0, 0, 0);
        x.sheet(0, 0, 4);
        x.lay(0, 0, 1);
        x.lay(0, 3, 2);
        x.sheet(1, 1, 0);
        x.sheet(2, 2, 6);
        x.lay(2, 5, 1);
        x.read(2, 0, 0, 1);
        Check.tell(x, "every 0;");
        Check.feed(x, "quick 2 5;every 3;");
        return x;
    }

    private static CoilWheels full() {
        CoilWheels x = CHECK.told("plain 3 0;quick 2 1;heavy 3 5;stiff 3 7;signs 1 1 2 3 0 1 2 1 0 1 2 3 0 1 2 1;every 9;");
        x.keep(1);
        Check.runTo(x, 9999);
        for (int i = 0; i < 6; i++) {
            x.see(8 * i, i % 4, x.ahead(i % 4, 8 * i, 0) % 8);
        }
        x.keep(0);
        for (int k = 0; k < 4; k++) {
            x.sheet(k, k % 3 == 0 ? 2 : k, 40);
            for (int i = 0; i < 40; i++) {
                x.lay(k, i, (i + k) % 8 == 7 ? i : i % 4);
            }
        }
        x.read(0, 0, 0, 1);
        Check.tell(x, "signs 1;signs");
        Check.feed(x, "heavy 1 4;signs 2 2;every 3;" + " ".repeat(132));
        return x;
    }

    private static CoilWheels below() {
        CoilWheels x = CHECK.run("plain 3 0;quick 0 1;stiff 2 6;signs 2 2 0 2;every 3;", 97);
        x.turn(1, 0);
        x.turn(2, 3);
        x.keep(0);
        x.ticks(5);
        x.see(7, 0, 4);
        x.sheet(0, 1, 2);
        x.sheet(1, 0, 40);
        x.sheet(2, 0, 1);
        x.sheet(3, 2, 3);
        x.lay(3, 2, -5);
        x.read(0, 1, 1, 1);
        Check.tell(x, "x");
        Check.feed(x, "stiff 3 3;");
        return x;
    }
}
