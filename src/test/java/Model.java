import java.math.BigInteger;
import java.util.ArrayList;
import java.util.List;
import java.util.function.Function;

/**
 * The document once more, written for plainness alone and by other means than the class:
 * new objects for every trial, fractions of BigInteger, FAULTS of sheets as the machine throws them.
 */
final class Model {
    static final int BAD = -1, STATE = -2, FULL = -3, NONE = -4;

    /** What an IMAGE holds. */
    static final class World {
        int field;
        int tick;
        int every = 1;
        List<Integer> signs = new ArrayList<>();
        List<Wheel> wheels = new ArrayList<>();
        List<int[]> seen = new ArrayList<>();

        World copy() {
            World w = new World();
            w.field = field;
            w.tick = tick;
            w.every = every;
            w.signs.addAll(signs);
            wheels.forEach(wheel -> w.wheels.add(wheel.copy()));
            w.seen.addAll(seen);
            return w;
        }

        int off(Wheel w) {
            int off = field - w.at;
            while (off > 4) {
                off -= 8;
            }
            while (off < -3) {
                off += 8;
            }
            return off;
        }

        int lost(Wheel w) {
            return (field - w.at - off(w)) / 8;
        }

        int lost(int r) {
            return lost(wheels.get(r));
        }

        int allLost() {
            return wheels.stream().mapToInt(w -> Math.abs(lost(w))).sum();
        }

        boolean slips(Wheel w) {
            return Math.abs(off(w)) > w.grip;
        }

        boolean anySlips() {
            return wheels.stream().anyMatch(this::slips);
        }

        void lead() {
            if (!signs.isEmpty() && tick % every == 0) {
                done(signs.get(tick / every % signs.size()));
            }
        }

        void done(int sign) {
            field += List.of(0, 1, -1, 2).get(sign);
        }

        int pull(boolean fails) {
            int moved = 0;
            for (Wheel w : wheels) {
                if (fails || slips(w) || off(w) == 0) {
                    w.way = 0;
                } else {
                    moved += move(w);
                }
            }
            tick++;
            return moved;
        }

        private int move(Wheel w) {
            int off = off(w);
            int side = off < 0 ? -1 : 1;
            boolean near = off == 1 || off == -1;
            boolean going = w.way == side;
            int places = 0;
            int way = side;
            if (w.kind == 0) {
                places = 1;
            } else if (w.kind == 1) {
                places = near ? 1 : 2;
            } else if (w.kind == 2) {
                places = going ? 1 : 0;
            } else if (near) {
                way = 0;
            } else if (going) {
                places = 1;
            }
            w.at += side * places;
            w.way = way;
            return places;
        }

        int run(int n) {
            int moved = 0;
            for (int i = 0; i < n; i++) {
                lead();
                moved += pull(false);
            }
            return moved;
        }

        boolean isAsSeen() {
            return seen.stream().allMatch(s -> {
                World w = copy();
                w.run(s[0]);
                return Math.floorMod(w.wheels.get(s[1]).at, 8) == s[2];
            });
        }
    }

    static final class Wheel {
        int kind;
        int grip;
        int at;
        int way;

        Wheel copy() {
            Wheel w = new Wheel();
            w.kind = kind;
            w.grip = grip;
            w.at = at;
            w.way = way;
            return w;
        }
    }

    /** A FAULT of a text. */
    private static final class Faulty extends RuntimeException {
        private static final long serialVersionUID = 1L;
        final int why;
        final int place;

        Faulty(int why, int place) {
            this.why = why;
            this.place = place;
        }
    }

    private World world = new World();
    private final World[] images = new World[2];
    private final Object[] sheets = new Object[4];
    private String tape = "";
    private int fault;
    private int torn;

    private static boolean in(int v, int from, int to) {
        return from <= v && v <= to;
    }

    private boolean rotorAt(int r) {
        return in(r, 0, world.wheels.size() - 1);
    }

    int feed(int c) {
        if (!in(c, 0, 127)) {
            return BAD;
        }
        if (tape.length() == 160) {
            return FULL;
        }
        tape += (char) c;
        return tape.length();
    }

    int end(int n) {
        if (!in(n, 0, tape.length())) {
            return BAD;
        }
        int had = tape.length();
        tape = tape.substring(0, n);
        return had;
    }

    private int place;

    /** The next TOKEN, "" at the end; place is then its first byte. */
    private String token(int[] next) {
        int from = next[0];
        while (from < tape.length() && tape.charAt(from) == ' ') {
            from++;
        }
        place = from;
        String rest = tape.substring(from);
        String got = "";
        if (rest.matches("(?s)[a-z].*")) {
            got = rest.replaceFirst("(?s)[^a-z].*", "");
        } else if (rest.matches("(?s)[0-9].*")) {
            got = rest.replaceFirst("(?s)[^0-9].*", "");
            if (got.length() > 2) {
                throw new Faulty(1, place);
            }
        } else if (rest.startsWith(";")) {
            got = ";";
        } else if (!rest.isEmpty()) {
            throw new Faulty(1, place);
        }
        next[0] = from + got.length();
        return got;
    }

    private int number(String token, int from, int to) {
        if (!token.matches("[0-9]+")) {
            throw new Faulty(2, place);
        }
        int v = Integer.parseInt(token);
        if (!in(v, from, to)) {
            throw new Faulty(3, place);
        }
        return v;
    }

    private void stop(int[] next) {
        if (!token(next).equals(";")) {
            throw new Faulty(2, place);
        }
    }

    private int tellAll(World told) {
        int[] next = {0};
        boolean every = false;
        int lines = 0;
        for (String name = token(next); !name.isEmpty(); name = token(next)) {
            int kind = List.of("plain", "quick", "heavy", "stiff").indexOf(name);
            if (kind >= 0) {
                if (told.wheels.size() == 4) {
                    throw new Faulty(5, place);
                }
                Wheel w = new Wheel();
                w.kind = kind;
                w.grip = number(token(next), 0, 3);
                w.at = number(token(next), 0, 7);
                told.wheels.add(w);
                stop(next);
            } else if (name.equals("every")) {
                if (every) {
                    throw new Faulty(4, place);
                }
                every = true;
                told.every = number(token(next), 1, 9);
                stop(next);
            } else if (name.equals("signs")) {
                if (!told.signs.isEmpty()) {
                    throw new Faulty(4, place);
                }
                told.signs.add(number(token(next), 0, 3));
                for (String t = token(next); !t.equals(";"); t = token(next)) {
                    if (told.signs.size() == 16 && t.matches("[0-9]+")) {
                        throw new Faulty(5, place);
                    }
                    told.signs.add(number(t, 0, 3));
                }
            } else {
                throw new Faulty(2, place);
            }
            lines++;
        }
        return lines;
    }

    int text() {
        World told = new World();
        try {
            int lines = tellAll(told);
            world = told;
            images[0] = null;
            images[1] = null;
            fault = 0;
            return lines;
        } catch (Faulty f) {
            fault = f.why;
            return -10 - f.place;
        } finally {
            tape = "";
        }
    }

    int fault() {
        return fault;
    }

    int rule(int what) {
        int slips = 0;
        for (int r = 0; r < world.wheels.size(); r++) {
            slips += world.slips(world.wheels.get(r)) ? 1 << r : 0;
        }
        int[] all = {world.wheels.size(), world.signs.size(), world.tick, world.every, 100000 + world.field,
            slips, world.allLost()};
        return in(what, 0, 6) ? all[what] : BAD;
    }

    int rotor(int r, int what) {
        if (!rotorAt(r) || !in(what, 0, 5)) {
            return BAD;
        }
        Wheel w = world.wheels.get(r);
        return new int[] {w.kind, w.grip, 100000 + w.at, 10 + w.way, 10 + world.off(w), 100000 + world.lost(w)}[what];
    }

    int sign(int i) {
        return in(i, 0, world.signs.size() - 1) ? world.signs.get(i) : BAD;
    }

    int alter(int r, int what, int v) {
        if (!rotorAt(r) || !in(what, 0, 1) || !in(v, 0, 3)) {
            return BAD;
        }
        int was = rotor(r, what);
        if (what == 0) {
            world.wheels.get(r).kind = v;
        } else {
            world.wheels.get(r).grip = v;
        }
        return was;
    }

    int turn(int r, int v) {
        if (!rotorAt(r) || !in(v, 0, 16)) {
            return BAD;
        }
        Wheel w = world.wheels.get(r);
        if (!in(w.at + v - 8, -30000, 30000)) {
            return FULL;
        }
        w.at += v - 8;
        w.way = 0;
        return 100000 + w.at;
    }

    int set(int i, int v) {
        return sign(i) == BAD || !in(v, 0, 3) ? BAD : world.signs.set(i, v);
    }

    int every(int v) {
        if (!in(v, 1, 9)) {
            return BAD;
        }
        int was = world.every;
        world.every = v;
        return was;
    }

    int add(int v) {
        if (!in(v, 0, 3)) {
            return BAD;
        }
        if (world.signs.size() == 16) {
            return FULL;
        }
        world.signs.add(v);
        return world.signs.size();
    }

    int cut(int n) {
        int had = world.signs.size();
        if (!in(n, 0, had)) {
            return BAD;
        }
        world.signs = new ArrayList<>(world.signs.subList(0, n));
        return had;
    }

    int ticks(int n) {
        if (!in(n, 0, 100)) {
            return BAD;
        }
        return world.tick + n >= 10000 ? FULL : world.run(n);
    }

    int runs(int n, int what) {
        if (!in(n, 0, 200) || !in(what, 0, 3)) {
            return BAD;
        }
        World w = world.copy();
        int slips = 0;
        for (int i = 0; i < n; i++) {
            w.lead();
            slips += w.anySlips() ? 1 : 0;
            w.pull(false);
        }
        return new int[] {world.copy().run(n), 100000 + w.field, w.allLost(), slips}[what];
    }

    int ahead(int r, int n, int what) {
        if (!rotorAt(r) || !in(n, 0, 200) || !in(what, 0, 1)) {
            return BAD;
        }
        World w = world.copy();
        w.run(n);
        return 100000 + (what == 0 ? w.wheels.get(r).at : w.lost(r));
    }

    int when(int r) {
        if (!rotorAt(r)) {
            return BAD;
        }
        for (int n = 0; n <= 200; n++) {
            if (ahead(r, n, 1) != ahead(r, 0, 1)) {
                return n;
            }
        }
        return NONE;
    }

    private World changed(Function<World, Object> change, int n) {
        World w = world.copy();
        change.apply(w);
        w.run(n);
        return w;
    }

    int slow(int r, int n) {
        if (!rotorAt(r) || !in(n, 0, 200)) {
            return BAD;
        }
        for (int v = 1; v <= 9; v++) {
            int every = v;
            if (changed(w -> w.every = every, n).lost(r) == world.lost(r)) {
                return v;
            }
        }
        return NONE;
    }

    int need(int r, int n) {
        if (!rotorAt(r) || !in(n, 0, 200)) {
            return BAD;
        }
        for (int v = 0; v <= 3; v++) {
            int grip = v;
            if (changed(w -> w.wheels.get(r).grip = grip, n).lost(r) == world.lost(r)) {
                return v;
            }
        }
        return NONE;
    }

    /** The first of the pairs (which, ALL LOST) with the least, below a bound. */
    private static int best(List<int[]> found, int below, int what) {
        int[] best = null;
        for (int[] f : found) {
            if (f[1] < below && (best == null || f[1] < best[1])) {
                best = f;
            }
        }
        return best == null ? NONE : best[what];
    }

    int kind(int r, int n, int what) {
        if (!rotorAt(r) || !in(n, 0, 200) || !in(what, 0, 1)) {
            return BAD;
        }
        List<int[]> found = new ArrayList<>();
        for (int v = 0; v < 4; v++) {
            int kind = v;
            found.add(new int[] {v, changed(w -> w.wheels.get(r).kind = kind, n).allLost()});
        }
        return best(found, Integer.MAX_VALUE, what);
    }

    int swap(int n, int what) {
        if (!in(n, 0, 200) || !in(what, 0, 1)) {
            return BAD;
        }
        List<int[]> found = new ArrayList<>();
        for (int a = 0; a < world.signs.size(); a++) {
            for (int b = a + 1; b < world.signs.size(); b++) {
                int i = a;
                int j = b;
                found.add(new int[] {100 * i + j,
                    changed(w -> w.signs.set(i, w.signs.set(j, w.signs.get(i))), n).allLost()});
            }
        }
        return best(found, runs(n, 2), what);
    }

    int ease(int n, int what) {
        if (!in(n, 0, 200) || !in(what, 0, 1)) {
            return BAD;
        }
        List<int[]> found = new ArrayList<>();
        for (int a = 0; a < world.signs.size(); a++) {
            int i = a;
            found.add(new int[] {i, changed(w -> w.signs.set(i, 0), n).allLost()});
        }
        return best(found, runs(n, 2), what);
    }

    int begin(int r, int n, int what) {
        if (!rotorAt(r) || !in(n, 0, 200) || !in(what, 0, 1)) {
            return BAD;
        }
        List<int[]> found = new ArrayList<>();
        for (int v = 0; v < 8; v++) {
            int on = v;
            found.add(new int[] {v, changed(w -> w.wheels.get(r).at += on, n).allLost()});
        }
        return best(found, Integer.MAX_VALUE, what);
    }

    /** Above and below of the mean of a value behind n TICKS, by all ways that coils may fail. */
    private static BigInteger mean(World w, int v, int n, int moved, int r) {
        if (n == 0) {
            int value = r < 0 ? moved : w.off(w.wheels.get(r)) == 0 ? 1 : 0;
            return BigInteger.valueOf(value);
        }
        World fails = w.copy();
        fails.lead();
        fails.pull(true);
        World goes = w.copy();
        goes.lead();
        int more = goes.pull(false);
        return mean(fails, v, n - 1, moved, r).multiply(BigInteger.valueOf(v))
            .add(mean(goes, v, n - 1, moved + more, r).multiply(BigInteger.valueOf(10 - v)));
    }

    private static long fraction(BigInteger above, int n, int what) {
        BigInteger below = BigInteger.TEN.pow(n);
        return (what == 0 ? above : below).divide(above.gcd(below)).longValueExact();
    }

    long luck(int v, int r, int n, int what) {
        if (!in(v, 0, 10) || !rotorAt(r) || !in(n, 0, 8) || !in(what, 0, 1)) {
            return BAD;
        }
        return fraction(mean(world, v, n, 0, r), n, what);
    }

    long mean(int v, int n, int what) {
        if (!in(v, 0, 10) || !in(n, 0, 8) || !in(what, 0, 1)) {
            return BAD;
        }
        return fraction(mean(world, v, n, 0, -1), n, what);
    }

    int see(int n, int r, int p) {
        if (!in(n, 0, 40) || !rotorAt(r) || !in(p, 0, 7)) {
            return BAD;
        }
        if (world.seen.size() == 6) {
            return FULL;
        }
        world.seen.add(new int[] {n, r, p});
        return world.seen.size();
    }

    int forget(int n) {
        int had = world.seen.size();
        if (!in(n, 0, had)) {
            return BAD;
        }
        world.seen = new ArrayList<>(world.seen.subList(0, n));
        return had;
    }

    private World startedOn(int r, int v) {
        return changed(w -> w.wheels.get(r).at += v, 0);
    }

    int kinds(int r) {
        int bits = 0;
        for (int v = 0; v < 4 && rotorAt(r); v++) {
            int kind = v;
            bits += changed(w -> w.wheels.get(r).kind = kind, 0).isAsSeen() ? 1 << v : 0;
        }
        return rotorAt(r) ? bits : BAD;
    }

    int grips(int r) {
        int bits = 0;
        for (int v = 0; v < 4 && rotorAt(r); v++) {
            int grip = v;
            bits += changed(w -> w.wheels.get(r).grip = grip, 0).isAsSeen() ? 1 << v : 0;
        }
        return rotorAt(r) ? bits : BAD;
    }

    int starts(int r) {
        int bits = 0;
        for (int v = 0; v < 8 && rotorAt(r); v++) {
            bits += startedOn(r, v).isAsSeen() ? 1 << v : 0;
        }
        return rotorAt(r) ? bits : BAD;
    }

    int ask(int r, int what) {
        if (!rotorAt(r) || !in(what, 0, 1)) {
            return BAD;
        }
        int starts = starts(r);
        List<int[]> found = new ArrayList<>();
        for (int n = 0; n <= 40; n++) {
            int[] left = new int[8];
            int worst = 0;
            for (int v = 0; v < 8; v++) {
                if ((starts >> v & 1) == 1) {
                    World w = startedOn(r, v);
                    w.run(n);
                    worst = Math.max(worst, ++left[Math.floorMod(w.wheels.get(r).at, 8)]);
                }
            }
            found.add(new int[] {n, worst});
        }
        return best(found, Integer.bitCount(starts), what);
    }

    int drift(int seed, int n, int what) {
        if (!in(n, 1, 200) || !in(what, 0, 1)) {
            return BAD;
        }
        if (world.wheels.isEmpty()) {
            return STATE;
        }
        World w = world.copy();
        int moved = 0;
        BigInteger state = BigInteger.valueOf(seed);
        for (int i = 0; i < n; i++) {
            state = state.multiply(BigInteger.valueOf(1103515245)).add(BigInteger.valueOf(12345));
            state = state.mod(BigInteger.TWO.pow(32));
            int got = state.shiftRight(16).mod(BigInteger.TWO.pow(15)).intValue();
            w.done(got / 4 % 4);
            moved += w.pull(false);
        }
        return what == 0 ? w.allLost() : moved;
    }

    int keep(int k) {
        if (!in(k, 0, 1)) {
            return BAD;
        }
        int was = images[k] == null ? 0 : 1;
        images[k] = world.copy();
        return was;
    }

    int back(int k) {
        if (!in(k, 0, 1)) {
            return BAD;
        }
        if (images[k] == null) {
            return STATE;
        }
        world = images[k].copy();
        return world.tick;
    }

    int sheet(int k, int lane, int n) {
        if (!in(k, 0, 3) || !in(lane, 0, 2) || n > 40) {
            return BAD;
        }
        try {
            sheets[k] = lane == 0 ? new byte[n] : lane == 1 ? new short[n] : new int[n];
            return 1;
        } catch (NegativeArraySizeException e) {
            return -14;
        }
    }

    int lay(int k, int i, int v) {
        if (!in(k, 0, 3)) {
            return BAD;
        }
        try {
            if (sheets[k] instanceof byte[] row) {
                row[i] = (byte) v;
            } else if (sheets[k] instanceof short[] row) {
                row[i] = (short) v;
            } else {
                ((int[]) sheets[k])[i] = v;
            }
            return 1;
        } catch (NullPointerException e) {
            return -11;
        } catch (ArrayIndexOutOfBoundsException e) {
            return -12;
        }
    }

    private int cell(int k, int lane, int i) {
        return switch (lane) {
            case 0 -> ((byte[]) sheets[k])[i];
            case 1 -> ((short[]) sheets[k])[i];
            default -> ((int[]) sheets[k])[i];
        };
    }

    int read(int k, int lane, int f, int n) {
        if (!in(k, 0, 3) || !in(lane, 0, 2) || !in(n, 0, 20)) {
            return BAD;
        }
        List<Integer> before = new ArrayList<>(world.signs);
        int came = 0;
        int found = 0;
        try {
            while (came < n) {
                if (set(cell(k, lane, f + 2 * came), cell(k, lane, f + 2 * came + 1)) == BAD) {
                    world.signs = before;
                    return -20 - came;
                }
                came++;
            }
        } catch (NullPointerException e) {
            found = 1;
        } catch (ArrayIndexOutOfBoundsException e) {
            found = 2;
        } catch (ClassCastException e) {
            found = 3;
        }
        torn = found;
        return came;
    }

    int torn() {
        return torn;
    }

    int count(int what) {
        if (!in(what, 0, 5)) {
            return BAD;
        }
        int cells = sheets[0] == null ? NONE : java.lang.reflect.Array.getLength(sheets[0]);
        int kept = (images[0] == null ? 0 : 1) + (images[1] == null ? 0 : 1);
        return new int[] {world.seen.size(), kept, tape.length(), cells,
            world.wheels.stream().mapToInt(w -> w.grip).sum(),
            world.signs.stream().mapToInt(s -> s).sum()}[what];
    }
}
