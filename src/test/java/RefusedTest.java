import java.util.ArrayList;
import java.util.LinkedHashMap;
import java.util.List;
import java.util.Map;
import java.util.function.Supplier;

/**
 * Every call with every number just beyond its bounds, in objects with nothing, with something, with all that there
 * is room for, and below 0: it is BAD whatever else would fit, and all that the object can still tell is as before.
 */
public final class RefusedTest {
    private static final Check CHECK = new Check();
    /** In the rows of bounds(): any number is taken, so that none is tried. */
    private static final int ANY = Integer.MIN_VALUE;

    public static void main(String[] args) {
        Map<String, Supplier<CoilWheels>> objects = new LinkedHashMap<>();
        objects.put("nothing", CoilWheels::new);
        objects.put("something", Samples::something);
        objects.put("full", Samples::full);
        objects.put("below", Samples::below);
        objects.put("busy", Samples::busy);
        objects.forEach((name, object) -> new RefusedTest(name, object).run());
        CHECK.finish();
    }

    private final String name;
    private final Supplier<CoilWheels> object;
    private final Map<String, String> untouched;
    private int refused;

    private RefusedTest(String name, Supplier<CoilWheels> object) {
        this.name = name;
        this.object = object;
        untouched = Parts.of(object.get());
    }

    private void run() {
        CHECK.says(Check.TERMS, "BAD -1 (a number is not as told, there is no such ROTOR, SIGN, IMAGE, SHEET)", "the first that fits;",
            "what is refused changes nothing (but THE TAPE, as told).");
        for (Object[] row : bounds(object.get())) {
            for (int at = 1; at < row.length; at++) {
                tryBeyond(row, at);
            }
        }
        CHECK.due(name + ": many calls were refused", refused > 500 ? 1 : 0, 1);
        otherwiseRefused();
        faultyText();
        onlyAsked();
    }

    /** The calls that take numbers, with the least and the most of each. */
    private static List<Object[]> bounds(CoilWheels x) {
        int[] r = {0, x.rule(0) - 1};
        int[] i = {0, x.rule(1) - 1};
        int[] ahead = {0, 200};
        int[] two = {0, 1};
        int[] four = {0, 3};
        int[] any = {ANY, ANY};
        return List.of(new Object[] {"feed", new int[] {0, 127}}, new Object[] {"end", new int[] {0, x.count(2)}},
            new Object[] {"rule", new int[] {0, 6}}, new Object[] {"rotor", r, new int[] {0, 5}}, new Object[] {"sign", i},
            new Object[] {"alter", r, two, four}, new Object[] {"turn", r, new int[] {0, 16}}, new Object[] {"set", i, four},
            new Object[] {"every", new int[] {1, 9}}, new Object[] {"add", four}, new Object[] {"cut", new int[] {0, x.rule(1)}},
            new Object[] {"ticks", new int[] {0, 100}}, new Object[] {"runs", ahead, four},
            new Object[] {"ahead", r, ahead, two}, new Object[] {"when", r}, new Object[] {"slow", r, ahead},
            new Object[] {"need", r, ahead}, new Object[] {"kind", r, ahead, two}, new Object[] {"swap", ahead, two},
            new Object[] {"ease", ahead, two}, new Object[] {"begin", r, ahead, two},
            new Object[] {"luck", new int[] {0, 10}, r, new int[] {0, 8}, two},
            new Object[] {"mean", new int[] {0, 10}, new int[] {0, 8}, two},
            new Object[] {"see", new int[] {0, 40}, r, new int[] {0, 7}}, new Object[] {"forget", new int[] {0, x.count(0)}},
            new Object[] {"kinds", r}, new Object[] {"grips", r}, new Object[] {"starts", r}, new Object[] {"ask", r, two},
            new Object[] {"drift", any, new int[] {1, 200}, two}, new Object[] {"keep", two}, new Object[] {"back", two},
            new Object[] {"sheet", four, new int[] {0, 2}, any}, new Object[] {"sheet", four, new int[] {0, 2}, new int[] {ANY, 40}},
            new Object[] {"lay", four, any, any}, new Object[] {"read", four, new int[] {0, 2}, any, new int[] {0, 20}},
            new Object[] {"count", new int[] {0, 5}});
    }

    private void tryBeyond(Object[] row, int at) {
        int[] range = (int[]) row[at];
        List<Integer> beyond = new ArrayList<>();
        if (range[1] != ANY) {
            beyond.add(range[1] + 1);
            beyond.add(Integer.MAX_VALUE);
        }
        if (range[0] != ANY) {
            beyond.add(range[0] - 1);
            beyond.add(Integer.MIN_VALUE);
        }
        for (int v : beyond) {
            for (int end = 0; end <= 1; end++) {
                int[] args = new int[row.length - 1];
                for (int i = 0; i < args.length; i++) {
                    int other = ((int[]) row[i + 1])[end];
                    args[i] = i + 1 == at ? v : Math.max(0, other);
                }
                isRefused(Check.BAD, (String) row[0], args);
            }
        }
    }

    /** Calls whose numbers are as told, but that the state refuses; each only where it does. */
    private void otherwiseRefused() {
        CoilWheels x = object.get();
        if (x.rule(0) == 0) {
            isRefused(Check.STATE, "drift", 1, 200, 0);
        }
        if (x.count(1) == 0) {
            isRefused(Check.STATE, "back", 0);
            isRefused(Check.STATE, "back", 1);
        }
        if (x.count(1) == 1) {
            isRefused(Check.STATE, "back", 1);
        }
        if (x.count(2) == 160) {
            isRefused(Check.FULL, "feed", ' ');
            isRefused(Check.FULL, "feed", ';');
        }
        if (x.rule(1) == 16) {
            isRefused(Check.FULL, "add", 1);
        }
        if (x.rule(2) == 9999) {
            isRefused(Check.FULL, "ticks", 1);
            isRefused(Check.FULL, "ticks", 100);
        }
        if (x.count(0) == 6) {
            isRefused(Check.FULL, "see", 0, 0, 0);
        }
        for (int k = 0; k < 4; k++) {
            isRefused(-14, "sheet", k, 2, -1);
            isRefused(-14, "sheet", k, 0, Integer.MIN_VALUE);
            int fault = name.equals("nothing") || name.equals("something") && k == 3 ? -11 : -12;
            isRefused(fault, "lay", k, 40, 1);
            isRefused(fault, "lay", k, -1, 1);
        }
        if (name.equals("full")) {
            // CELL 36 of it is 36, and there is no such SIGN; those ahead would come.
            isRefused(-20, "read", 3, 2, 36, 1);
            isRefused(-21, "read", 3, 2, 34, 2);
            isRefused(-22, "read", 3, 2, 32, 20);
        }
        if (name.equals("busy")) {
            // CELL 11 is 9, which no SIGN can be.
            isRefused(-20, "read", 3, 0, 10, 1);
            isRefused(-25, "read", 3, 0, 0, 20);
        }
    }

    /** The one refusal that changes THE TAPE, and what fault() tells. */
    private void faultyText() {
        CoilWheels x = object.get();
        x.end(0);
        CHECK.due(name + ": text() with a FAULT", Check.tell(x, "plain 1 1;signs 3;every 8;every"), -36);
        CHECK.due(name + ": fault()", x.fault(), 4);
        CoilWheels y = object.get();
        y.end(0);
        Parts.same(CHECK, name + ": a text with a FAULT", Parts.of(x), Parts.of(y), "FAULT");
    }

    /** Calls that tell, and change nothing though they are taken. */
    private void onlyAsked() {
        CHECK.says(Check.TERMS, "BY TICKS: as it would be from now on.");
        CoilWheels x = object.get();
        for (Object[] row : bounds(x)) {
            String call = (String) row[0];
            boolean changes = List.of("feed", "end", "alter", "turn", "set", "every", "add", "cut", "ticks", "see", "forget", "keep",
                "back", "sheet", "lay", "read").contains(call);
            for (int end = 0; end <= 1 && !changes; end++) {
                int[] args = new int[row.length - 1];
                for (int i = 0; i < args.length; i++) {
                    args[i] = Math.max(0, ((int[]) row[i + 1])[end]);
                }
                Check.answer(x, call, args);
            }
        }
        Parts.same(CHECK, name + ": what is only asked", Parts.of(x), untouched);
    }

    private void isRefused(int answer, String call, int... args) {
        refused++;
        CoilWheels x = object.get();
        String told = name + ": " + Check.written(call, args);
        CHECK.due(told, Check.answer(x, call, args), answer);
        Parts.same(CHECK, told, Parts.of(x), untouched);
    }
}
