import java.util.Map;
import java.util.TreeMap;

/** All that an object can tell, part by part. To tell it uses the object up: IMAGES, SEEN, SHEETS, THE TAPE. */
final class Parts {
    private static final String SIXTEEN_HOLDS = "signs 0 0 0 0 0 0 0 0 0 0 0 0 0 0 0 0;";

    private final CoilWheels x;
    private final Map<String, String> parts = new TreeMap<>();

    private Parts(CoilWheels x) {
        this.x = x;
    }

    static Map<String, String> of(CoilWheels x) {
        return new Parts(x).told();
    }

    /** Prints what differs, but for what may: a part by its name, or all whose names begin with that word. */
    static void same(Check check, String label, Map<String, String> got, Map<String, String> want, String... may) {
        Map<String, String> all = new TreeMap<>(want);
        all.putAll(got);
        for (String name : all.keySet()) {
            boolean free = false;
            for (String part : may) {
                free |= name.equals(part) || name.startsWith(part + " ");
            }
            if (!free) {
                check.same(label + " changed " + name, got.getOrDefault(name, "none"), want.getOrDefault(name, "none"));
            }
        }
    }

    private Map<String, String> told() {
        put("FAULT", x.fault());
        put("TORN", x.torn());
        put("IMAGES", x.count(1));
        all("");
        for (int k = 0; k < 2; k++) {
            String name = "IMAGE " + k + " ";
            int tick = x.back(k);
            put(name + "back", tick);
            if (tick >= 0) {
                all(name);
            }
        }
        put("TAPE", x.count(2));
        int lines = x.text();
        put("TAPE text", lines + " " + x.fault());
        if (lines >= 0) {
            all("TAPE ");
        }
        // So that which SIGN a read() sets, and to what, can be seen.
        Check.tell(x, SIXTEEN_HOLDS);
        x.keep(0);
        for (int i = 0; i < 16; i++) {
            x.set(i, 3);
        }
        x.keep(1);
        for (int k = 0; k < 4; k++) {
            sheet(k);
        }
        return parts;
    }

    private void put(String name, Object told) {
        parts.put(name, String.valueOf(told));
    }

    /** What an IMAGE holds. */
    private void all(String name) {
        now(name);
        ahead(name);
        seen(name);
    }

    private void now(String name) {
        put(name + "ROTORS", x.rule(0));
        put(name + "SIGNS", x.rule(1));
        put(name + "TICK", x.rule(2));
        put(name + "EVERY", x.rule(3));
        put(name + "FIELD", x.rule(4));
        for (int i = 0; i < 16; i++) {
            put(name + "SIGN " + i, x.sign(i));
        }
        for (int r = 0; r < 4; r++) {
            put(name + "KIND " + r, x.rotor(r, 0));
            put(name + "GRIP " + r, x.rotor(r, 1));
            put(name + "PLACE " + r, x.rotor(r, 2));
            put(name + "WAY " + r, x.rotor(r, 3));
        }
    }

    /** What follows from all that there is now, and what was SEEN of it. */
    private void ahead(String name) {
        StringBuilder all = new StringBuilder();
        for (int what = 0; what <= 3; what++) {
            all.append(x.runs(50, what)).append(' ');
        }
        for (int r = 0; r < 4; r++) {
            all.append(x.kinds(r)).append(' ').append(x.grips(r)).append(' ').append(x.starts(r)).append(' ');
        }
        put(name + "AHEAD", all);
    }

    /** What was SEEN, of ROTORS that stay at places that leave nothing by 8: whatever else there is, it is told alike. */
    private void seen(String name) {
        StringBuilder all = new StringBuilder();
        for (int r = 0; r < x.rule(0); r++) {
            x.alter(r, 1, 0);
            x.turn(r, 8 - Math.floorMod(x.rotor(r, 2) - 100000, 8));
        }
        for (int m = x.count(0); m >= 0; m--) {
            all.append(x.forget(m)).append(':');
            for (int r = 0; r < 4; r++) {
                all.append(' ').append(x.starts(r));
            }
            all.append("; ");
        }
        put(name + "SEEN", all);
    }

    private void sheet(int k) {
        StringBuilder all = new StringBuilder();
        for (int lane = 0; lane <= 2; lane++) {
            x.read(k, lane, 0, 1);
            all.append(" lane ").append(lane).append(' ').append(x.torn());
            for (int f = 0; f < 39 && x.torn() != 1 && x.torn() != 3; f++) {
                all.append(' ').append(pair(k, lane, f));
            }
        }
        int cells = 0;
        for (int i = 0; i < 40; i++) {
            cells += x.lay(k, i, 0) == 1 ? 1 : 0;
        }
        put("SHEET " + k, cells + " CELLS" + all);
    }

    /** CELLS f and the next, as what they make of SIGNS that all hold, and of SIGNS that are all two on. */
    private String pair(int k, int lane, int f) {
        StringBuilder told = new StringBuilder();
        for (int image = 0; image <= 1; image++) {
            x.back(image);
            told.append(x.read(k, lane, f, 1)).append('/');
            for (int i = 0; i < 16; i++) {
                told.append(x.sign(i) == 3 * image ? "" : i + "=" + x.sign(i));
            }
            told.append(',');
        }
        return told.toString();
    }
}
