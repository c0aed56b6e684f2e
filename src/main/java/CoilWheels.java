/**
 * Wheels that follow coils: a FIELD led round by SIGNS, and ROTORS that it pulls.
 * The words in capitals are those of the document, ../shared/DOC.md.
 */
public final class CoilWheels {
    public static final int BAD = -1, STATE = -2, FULL = -3, NONE = -4;

    private static final int MOST_BYTES = 160;
    private static final int MOST_SIGNS = 16;
    private static final int MOST_ROTORS = 4;
    private static final int MOST_SEEN = 6;
    private static final int MOST_CELLS = 40;
    private static final int MOST_READ = 20;
    private static final int IMAGES = 2;
    private static final int SHEETS = 4;

    private static final int LAST_SIGN = 3;
    private static final int LAST_KIND = 3;
    private static final int LAST_GRIP = 3;
    private static final int LAST_EVERY = 9;
    private static final int LAST_LANE = 2;
    private static final int TURN = 8;

    private static final int TICKS_AT_ONCE = 100;
    private static final int TICKS_AHEAD = 200;
    private static final int TICKS_SEEN = 40;
    private static final int TICKS_BY_LUCK = 8;
    private static final int TICK_LIMIT = 10000;
    private static final int PLACE_LIMIT = 30000;

    /** What of a ROTOR is tried; of its place, by how much further on. */
    private static final int ITS_KIND = 0, ITS_GRIP = 1, ITS_PLACE = 2;

    /** Added to what may lie below 0, so that it is never taken for a refusal. */
    private static final int LIFT = 100000, SMALL_LIFT = 10;

    private final Tape tape;
    private final Drive now;
    private final Drive trial;
    private final Sights sights;
    private final Image[] images;
    private final Sheet[] sheets;
    private int readFault;

    public CoilWheels() {
        tape = new Tape();
        now = new Drive();
        trial = new Drive();
        sights = new Sights();
        images = new Image[IMAGES];
        for (int i = 0; i < IMAGES; i++) {
            images[i] = new Image();
        }
        sheets = new Sheet[SHEETS];
        for (int i = 0; i < SHEETS; i++) {
            sheets[i] = new Sheet();
        }
    }

    // ---- the text

    public int feed(int c) {
        if (!within(c, 127)) {
            return BAD;
        }
        if (tape.length >= MOST_BYTES) {
            return FULL;
        }
        tape.bytes[tape.length] = (byte) c;
        tape.length++;
        return tape.length;
    }

    public int end(int n) {
        if (!within(n, tape.length)) {
            return BAD;
        }
        int had = tape.length;
        tape.length = n;
        return had;
    }

    public int text() {
        int lines = tape.takeLines();
        tape.length = 0;
        if (tape.fault != 0) {
            return -10 - tape.faultPlace;
        }
        now.copyFrom(tape.draft);
        sights.number = 0;
        for (int k = 0; k < IMAGES; k++) {
            images[k].kept = false;
        }
        return lines;
    }

    public int fault() {
        return tape.fault;
    }

    public int rule(int what) {
        switch (what) {
            case 0: return now.rotorNumber;
            case 1: return now.signNumber;
            case 2: return now.tick;
            case 3: return now.pace;
            case 4: return LIFT + now.field;
            case 5: return now.slipping();
            case 6: return now.allLost();
            default: return BAD;
        }
    }

    public int rotor(int r, int what) {
        if (!hasRotor(r)) {
            return BAD;
        }
        Rotor rotor = now.rotors[r];
        switch (what) {
            case 0: return rotor.sort;
            case 1: return rotor.grip;
            case 2: return LIFT + rotor.place;
            case 3: return SMALL_LIFT + rotor.way;
            case 4: return SMALL_LIFT + rotor.off(now.field);
            case 5: return LIFT + rotor.lost(now.field);
            default: return BAD;
        }
    }

    public int sign(int i) {
        return hasSign(i) ? now.signs[i] : BAD;
    }

    // ---- what is changed

    public int alter(int r, int what, int v) {
        if (!hasRotor(r) || !within(what, 1) || !within(v, what == 0 ? LAST_KIND : LAST_GRIP)) {
            return BAD;
        }
        Rotor rotor = now.rotors[r];
        int was;
        if (what == 0) {
            was = rotor.sort;
            rotor.sort = v;
        } else {
            was = rotor.grip;
            rotor.grip = v;
        }
        return was;
    }

    public int turn(int r, int v) {
        if (!hasRotor(r) || !within(v, 2 * TURN)) {
            return BAD;
        }
        Rotor rotor = now.rotors[r];
        int place = rotor.place + v - TURN;
        if (Math.abs(place) > PLACE_LIMIT) {
            return FULL;
        }
        rotor.place = place;
        rotor.way = 0;
        return LIFT + place;
    }

    public int set(int i, int v) {
        if (!canSet(i, v)) {
            return BAD;
        }
        int was = now.signs[i];
        now.signs[i] = v;
        return was;
    }

    public int every(int v) {
        if (v < 1 || v > LAST_EVERY) {
            return BAD;
        }
        int was = now.pace;
        now.pace = v;
        return was;
    }

    public int add(int v) {
        if (!within(v, LAST_SIGN)) {
            return BAD;
        }
        return now.addSign(v) ? now.signNumber : FULL;
    }

    public int cut(int n) {
        if (!within(n, now.signNumber)) {
            return BAD;
        }
        int had = now.signNumber;
        now.signNumber = n;
        return had;
    }

    // ---- ticks

    public int ticks(int n) {
        if (!within(n, TICKS_AT_ONCE)) {
            return BAD;
        }
        if (now.tick + n >= TICK_LIMIT) {
            return FULL;
        }
        return now.go(n);
    }

    public int runs(int n, int what) {
        if (!within(n, TICKS_AHEAD) || !within(what, 3)) {
            return BAD;
        }
        trial.copyFrom(now);
        int moved = 0;
        int slips = 0;
        for (int t = 0; t < n; t++) {
            trial.leadField();
            if (trial.slipping() != 0) {
                slips++;
            }
            moved += trial.pullRotors();
        }
        switch (what) {
            case 0: return moved;
            case 1: return LIFT + trial.field;
            case 2: return trial.allLost();
            default: return slips;
        }
    }

    public int ahead(int r, int n, int what) {
        if (!hasRotor(r) || !within(n, TICKS_AHEAD) || !within(what, 1)) {
            return BAD;
        }
        trial.copyFrom(now);
        trial.go(n);
        return LIFT + (what == 0 ? trial.rotors[r].place : trial.lostOf(r));
    }

    public int when(int r) {
        if (!hasRotor(r)) {
            return BAD;
        }
        trial.copyFrom(now);
        int lost = now.lostOf(r);
        for (int t = 1; t <= TICKS_AHEAD; t++) {
            trial.go(1);
            if (trial.lostOf(r) != lost) {
                return t;
            }
        }
        return NONE;
    }

    // ---- what is best

    public int slow(int r, int n) {
        if (!hasRotor(r) || !within(n, TICKS_AHEAD)) {
            return BAD;
        }
        for (int v = 1; v <= LAST_EVERY; v++) {
            trial.copyFrom(now);
            trial.pace = v;
            if (losesNothingMore(r, n)) {
                return v;
            }
        }
        return NONE;
    }

    public int need(int r, int n) {
        if (!hasRotor(r) || !within(n, TICKS_AHEAD)) {
            return BAD;
        }
        for (int v = 0; v <= LAST_GRIP; v++) {
            tryWith(r, ITS_GRIP, v);
            if (losesNothingMore(r, n)) {
                return v;
            }
        }
        return NONE;
    }

    public int kind(int r, int n, int what) {
        if (!hasRotor(r) || !within(n, TICKS_AHEAD) || !within(what, 1)) {
            return BAD;
        }
        return leastLostBy(r, ITS_KIND, LAST_KIND, n, what);
    }

    public int swap(int n, int what) {
        if (!within(n, TICKS_AHEAD) || !within(what, 1)) {
            return BAD;
        }
        trial.copyFrom(now);
        int least = allLostBehind(n);
        int best = NONE;
        for (int i = 0; i < now.signNumber; i++) {
            for (int j = i + 1; j < now.signNumber; j++) {
                // Like SIGNS leave all as it is, which is never less.
                if (now.signs[i] != now.signs[j]) {
                    trial.copyFrom(now);
                    trial.signs[i] = now.signs[j];
                    trial.signs[j] = now.signs[i];
                    int lost = allLostBehind(n);
                    if (lost < least) {
                        least = lost;
                        best = 100 * i + j;
                    }
                }
            }
        }
        return best == NONE || what == 0 ? best : least;
    }

    public int ease(int n, int what) {
        if (!within(n, TICKS_AHEAD) || !within(what, 1)) {
            return BAD;
        }
        trial.copyFrom(now);
        int least = allLostBehind(n);
        int best = NONE;
        for (int i = 0; i < now.signNumber; i++) {
            trial.copyFrom(now);
            trial.signs[i] = 0;
            int lost = allLostBehind(n);
            if (lost < least) {
                least = lost;
                best = i;
            }
        }
        return best == NONE || what == 0 ? best : least;
    }

    public int begin(int r, int n, int what) {
        if (!hasRotor(r) || !within(n, TICKS_AHEAD) || !within(what, 1)) {
            return BAD;
        }
        return leastLostBy(r, ITS_PLACE, TURN - 1, n, what);
    }

    // ---- coils that fail

    public long luck(int v, int r, int n, int what) {
        if (!within(v, 10) || !hasRotor(r) || !within(n, TICKS_BY_LUCK) || !within(what, 1)) {
            return BAD;
        }
        long weight = 0;
        for (int fails = 0; fails < 1 << n; fails++) {
            trial.copyFrom(now);
            trial.goFailing(n, fails);
            if (trial.rotors[r].off(trial.field) == 0) {
                weight += weightOf(v, n, Integer.bitCount(fails));
            }
        }
        return inLowestTerms(weight, power(10, n), what);
    }

    public long mean(int v, int n, int what) {
        if (!within(v, 10) || !within(n, TICKS_BY_LUCK) || !within(what, 1)) {
            return BAD;
        }
        long weight = 0;
        for (int fails = 0; fails < 1 << n; fails++) {
            trial.copyFrom(now);
            int moved = trial.goFailing(n, fails);
            weight += moved * weightOf(v, n, Integer.bitCount(fails));
        }
        return inLowestTerms(weight, power(10, n), what);
    }

    // ---- from where they were seen

    public int see(int n, int r, int p) {
        if (!within(n, TICKS_SEEN) || !hasRotor(r) || !within(p, TURN - 1)) {
            return BAD;
        }
        return sights.note(n, r, p) ? sights.number : FULL;
    }

    public int forget(int n) {
        if (!within(n, sights.number)) {
            return BAD;
        }
        int had = sights.number;
        sights.number = n;
        return had;
    }

    public int kinds(int r) {
        return hasRotor(r) ? asSeenBy(r, ITS_KIND, LAST_KIND) : BAD;
    }

    public int grips(int r) {
        return hasRotor(r) ? asSeenBy(r, ITS_GRIP, LAST_GRIP) : BAD;
    }

    public int starts(int r) {
        return hasRotor(r) ? asSeenBy(r, ITS_PLACE, TURN - 1) : BAD;
    }

    public int ask(int r, int what) {
        if (!hasRotor(r) || !within(what, 1)) {
            return BAD;
        }
        // Behind 0 TICKS no two of the starts leave the same by 8: a look at once
        // leaves one of them, and no later look leaves fewer at the worst.
        if (Integer.bitCount(asSeenBy(r, ITS_PLACE, TURN - 1)) < 2) {
            return NONE;
        }
        return what == 0 ? 0 : 1;
    }

    // ---- by a seed

    public int drift(int seed, int n, int what) {
        if (n < 1 || n > TICKS_AHEAD || !within(what, 1)) {
            return BAD;
        }
        if (now.rotorNumber == 0) {
            return STATE;
        }
        trial.copyFrom(now);
        int moved = 0;
        int state = seed;
        for (int t = 0; t < n; t++) {
            state = state * 1103515245 + 12345;
            int got = state >>> 16 & 0x7fff;
            trial.moveField(got / 4 % 4);
            moved += trial.pullRotors();
        }
        return what == 0 ? trial.allLost() : moved;
    }

    // ---- images, sheets

    public int keep(int k) {
        if (!within(k, IMAGES - 1)) {
            return BAD;
        }
        Image image = images[k];
        int was = image.kept ? 1 : 0;
        image.drive.copyFrom(now);
        image.sights.copyFrom(sights);
        image.kept = true;
        return was;
    }

    public int back(int k) {
        if (!within(k, IMAGES - 1)) {
            return BAD;
        }
        Image image = images[k];
        if (!image.kept) {
            return STATE;
        }
        now.copyFrom(image.drive);
        sights.copyFrom(image.sights);
        return now.tick;
    }

    public int sheet(int k, int lane, int n) {
        if (!within(k, SHEETS - 1) || !within(lane, LAST_LANE) || n > MOST_CELLS) {
            return BAD;
        }
        if (n < 0) {
            return -10 - Sheet.SIZE;
        }
        sheets[k].renew(lane, n);
        return 1;
    }

    public int lay(int k, int i, int v) {
        if (!within(k, SHEETS - 1)) {
            return BAD;
        }
        int found = sheets[k].faultAt(i);
        if (found != 0) {
            return -10 - found;
        }
        sheets[k].put(i, v);
        return 1;
    }

    public int read(int k, int lane, int f, int n) {
        if (!within(k, SHEETS - 1) || !within(lane, LAST_LANE) || !within(n, MOST_READ)) {
            return BAD;
        }
        Sheet sheet = sheets[k];
        int whole = 0;
        int found = 0;
        while (whole < n) {
            int i = f + 2 * whole;
            found = sheet.faultOfPair(lane, i);
            if (found != 0) {
                break;
            }
            if (!canSet(sheet.cells[i], sheet.cells[i + 1])) {
                return -20 - whole;
            }
            whole++;
        }
        // Only now, as one that is refused must leave those ahead of it undone too.
        for (int pair = 0; pair < whole; pair++) {
            int i = f + 2 * pair;
            now.signs[sheet.cells[i]] = sheet.cells[i + 1];
        }
        readFault = found;
        return whole;
    }

    public int torn() {
        return readFault;
    }

    public int count(int what) {
        switch (what) {
            case 0: return sights.number;
            case 1: return (images[0].kept ? 1 : 0) + (images[1].kept ? 1 : 0);
            case 2: return tape.length;
            case 3: return sheets[0].lane == Sheet.NOTHING ? NONE : sheets[0].size;
            case 4: return now.allGrips();
            case 5: return now.allSigns();
            default: return BAD;
        }
    }

    // ---- what several calls share

    private static boolean within(int v, int last) {
        return v >= 0 && v <= last;
    }

    private boolean hasRotor(int r) {
        return r >= 0 && r < now.rotorNumber;
    }

    private boolean hasSign(int i) {
        return i >= 0 && i < now.signNumber;
    }

    private boolean canSet(int i, int v) {
        return hasSign(i) && within(v, LAST_SIGN);
    }

    /** Lets the trial be as all is now, but for one thing of a ROTOR. */
    private void tryWith(int r, int thing, int v) {
        trial.copyFrom(now);
        Rotor rotor = trial.rotors[r];
        switch (thing) {
            case ITS_KIND: rotor.sort = v; break;
            case ITS_GRIP: rotor.grip = v; break;
            default: rotor.place += v; break;
        }
    }

    /** Runs the trial on by n TICKS. */
    private int allLostBehind(int n) {
        trial.go(n);
        return trial.allLost();
    }

    /** The value from 0 on of one thing of a ROTOR by which ALL LOST is least, or how much. */
    private int leastLostBy(int r, int thing, int last, int n, int what) {
        int best = 0;
        tryWith(r, thing, 0);
        int least = allLostBehind(n);
        for (int v = 1; v <= last; v++) {
            tryWith(r, thing, v);
            int lost = allLostBehind(n);
            if (lost < least) {
                least = lost;
                best = v;
            }
        }
        return what == 0 ? best : least;
    }

    /** Runs the trial on by n TICKS. */
    private boolean losesNothingMore(int r, int n) {
        trial.go(n);
        return trial.lostOf(r) == now.lostOf(r);
    }

    /** Runs the trial on as far as anything is SEEN. */
    private boolean goesAsSeen() {
        int last = sights.last();
        for (int t = 0; t <= last; t++) {
            if (!sights.fit(trial, t)) {
                return false;
            }
            trial.go(1);
        }
        return true;
    }

    /** The values from 0 on (bits) of one thing of a ROTOR by which all is as SEEN. */
    private int asSeenBy(int r, int thing, int last) {
        int bits = 0;
        for (int v = 0; v <= last; v++) {
            tryWith(r, thing, v);
            if (goesAsSeen()) {
                bits |= 1 << v;
            }
        }
        return bits;
    }

    /** How many of the ten to the n equal cases have just these failures. */
    private static long weightOf(int v, int n, int failures) {
        return power(v, failures) * power(10 - v, n - failures);
    }

    private static long power(int base, int exponent) {
        long product = 1;
        for (int i = 0; i < exponent; i++) {
            product *= base;
        }
        return product;
    }

    private static long inLowestTerms(long above, long below, int what) {
        long a = above;
        long b = below;
        // Euclid needs some fifty steps for numbers of this size.
        for (int i = 0; i < 1000 && b != 0; i++) {
            long rest = a % b;
            a = b;
            b = rest;
        }
        long divisor = Math.max(1, a);
        return (what == 0 ? above : below) / divisor;
    }

    /** THE TAPE; read into a draft, so that what was told stays if there is a FAULT. */
    private static final class Tape {
        static final int NO_TOKEN = 1, MISPLACED = 2, OUT_OF_BOUNDS = 3, TOLD_TWICE = 4, TOO_MANY = 5;

        private static final int END = 0, NAME = 1, NUMBER = 2, STOP = 3;
        private static final int MOST_FIGURES = 2;

        final byte[] bytes;
        int length;
        final Drive draft;
        int fault;
        int faultPlace;
        private int token;
        private int start;
        private int next;
        private int value;
        private boolean signsTold;
        private boolean everyTold;

        Tape() {
            bytes = new byte[MOST_BYTES];
            draft = new Drive();
        }

        /** How many lines; of use only if there is no fault. */
        int takeLines() {
            draft.clear();
            fault = 0;
            faultPlace = 0;
            next = 0;
            signsTold = false;
            everyTold = false;
            int lines = 0;
            // A line takes bytes, so that there are fewer lines than bytes.
            while (lines <= MOST_BYTES && readToken() && token != END) {
                if (!takeLine()) {
                    break;
                }
                lines++;
            }
            return lines;
        }

        private boolean takeLine() {
            if (token != NAME) {
                return refuse(MISPLACED);
            }
            int sort = sortNamed();
            if (sort >= 0) {
                return takeRotor(sort);
            }
            if (isNamed("signs")) {
                return takeSigns();
            }
            if (isNamed("every")) {
                return takeEvery();
            }
            return refuse(MISPLACED);
        }

        private boolean takeRotor(int sort) {
            if (draft.rotorNumber >= MOST_ROTORS) {
                return refuse(TOO_MANY);
            }
            if (!takeNumber(0, LAST_GRIP)) {
                return false;
            }
            int grip = value;
            if (!takeNumber(0, TURN - 1)) {
                return false;
            }
            draft.addRotor(sort, grip, value);
            return takeStop();
        }

        private boolean takeSigns() {
            if (signsTold) {
                return refuse(TOLD_TWICE);
            }
            signsTold = true;
            for (int i = 0; i < MOST_SIGNS; i++) {
                if (!readToken()) {
                    return false;
                }
                if (i > 0 && token == STOP) {
                    return true;
                }
                if (!isNumber(0, LAST_SIGN)) {
                    return false;
                }
                draft.addSign(value);
            }
            return readToken() && (token == STOP || refuse(token == NUMBER ? TOO_MANY : MISPLACED));
        }

        private boolean takeEvery() {
            if (everyTold) {
                return refuse(TOLD_TWICE);
            }
            everyTold = true;
            if (!takeNumber(1, LAST_EVERY)) {
                return false;
            }
            draft.pace = value;
            return takeStop();
        }

        private boolean takeNumber(int least, int most) {
            return readToken() && isNumber(least, most);
        }

        /** Refuses the TOKEN, if it is none. */
        private boolean isNumber(int least, int most) {
            if (token != NUMBER) {
                return refuse(MISPLACED);
            }
            return value >= least && value <= most || refuse(OUT_OF_BOUNDS);
        }

        private boolean takeStop() {
            return readToken() && (token == STOP || refuse(MISPLACED));
        }

        private boolean readToken() {
            start = endOfRun(next, ' ', ' ');
            next = start;
            if (start >= length) {
                token = END;
                return true;
            }
            byte first = bytes[start];
            if (first == ';') {
                token = STOP;
                next = start + 1;
                return true;
            }
            if (first >= 'a' && first <= 'z') {
                token = NAME;
                next = endOfRun(start, 'a', 'z');
                return true;
            }
            if (first >= '0' && first <= '9') {
                token = NUMBER;
                next = endOfRun(start, '0', '9');
                return next - start <= MOST_FIGURES ? readValue() : refuse(NO_TOKEN);
            }
            return refuse(NO_TOKEN);
        }

        private boolean readValue() {
            value = 0;
            for (int i = start; i < next; i++) {
                value = 10 * value + bytes[i] - '0';
            }
            return true;
        }

        private int endOfRun(int from, char least, char most) {
            int i = from;
            while (i < length && bytes[i] >= least && bytes[i] <= most) {
                i++;
            }
            return i;
        }

        /** The KIND that the NAME tells, or -1. */
        private int sortNamed() {
            if (isNamed("plain")) {
                return Rotor.PLAIN;
            }
            if (isNamed("quick")) {
                return Rotor.QUICK;
            }
            if (isNamed("heavy")) {
                return Rotor.HEAVY;
            }
            return isNamed("stiff") ? Rotor.STIFF : -1;
        }

        private boolean isNamed(String name) {
            if (next - start != name.length()) {
                return false;
            }
            for (int i = 0; i < name.length(); i++) {
                if (bytes[start + i] != name.charAt(i)) {
                    return false;
                }
            }
            return true;
        }

        /** Always false, so that it can be handed on at once. */
        private boolean refuse(int why) {
            fault = why;
            faultPlace = start;
            return false;
        }
    }

    /** The FIELD with what leads it and the ROTORS that it pulls. */
    private static final class Drive {
        int field;
        int tick;
        int pace;
        int signNumber;
        int rotorNumber;
        final int[] signs;
        final Rotor[] rotors;

        Drive() {
            pace = 1;
            signs = new int[MOST_SIGNS];
            rotors = new Rotor[MOST_ROTORS];
            for (int i = 0; i < MOST_ROTORS; i++) {
                rotors[i] = new Rotor();
            }
        }

        void clear() {
            field = 0;
            tick = 0;
            pace = 1;
            signNumber = 0;
            rotorNumber = 0;
        }

        void copyFrom(Drive other) {
            field = other.field;
            tick = other.tick;
            pace = other.pace;
            signNumber = other.signNumber;
            rotorNumber = other.rotorNumber;
            System.arraycopy(other.signs, 0, signs, 0, MOST_SIGNS);
            for (int i = 0; i < rotorNumber; i++) {
                rotors[i].copyFrom(other.rotors[i]);
            }
        }

        boolean addSign(int v) {
            if (signNumber >= MOST_SIGNS) {
                return false;
            }
            signs[signNumber] = v;
            signNumber++;
            return true;
        }

        void addRotor(int sort, int grip, int place) {
            if (rotorNumber < MOST_ROTORS) {
                rotors[rotorNumber].become(sort, grip, place);
                rotorNumber++;
            }
        }

        /** n TICKS: by how many places ROTORS move. */
        int go(int n) {
            int moved = 0;
            for (int t = 0; t < n; t++) {
                leadField();
                moved += pullRotors();
            }
            return moved;
        }

        /** As go, but coils fail in TICK t, if bit t of fails is set. */
        int goFailing(int n, int fails) {
            int moved = 0;
            for (int t = 0; t < n; t++) {
                leadField();
                if ((fails >> t & 1) == 1) {
                    leaveRotors();
                } else {
                    moved += pullRotors();
                }
            }
            return moved;
        }

        /** The first half of a TICK. */
        void leadField() {
            if (signNumber > 0 && pace > 0 && tick % pace == 0) {
                moveField(signs[tick / pace % signNumber]);
            }
        }

        void moveField(int sign) {
            switch (sign) {
                case 1: field++; break;
                case 2: field--; break;
                case 3: field += 2; break;
                default: break;
            }
        }

        /** The second half of a TICK: by how many places ROTORS move. */
        int pullRotors() {
            int moved = 0;
            for (int i = 0; i < rotorNumber; i++) {
                moved += rotors[i].follow(field);
            }
            tick++;
            return moved;
        }

        /** The second half of a TICK in which coils fail. */
        private void leaveRotors() {
            for (int i = 0; i < rotorNumber; i++) {
                rotors[i].way = 0;
            }
            tick++;
        }

        int slipping() {
            int bits = 0;
            for (int i = 0; i < rotorNumber; i++) {
                if (rotors[i].slips(field)) {
                    bits |= 1 << i;
                }
            }
            return bits;
        }

        int lostOf(int r) {
            return rotors[r].lost(field);
        }

        int allLost() {
            int sum = 0;
            for (int i = 0; i < rotorNumber; i++) {
                sum += Math.abs(rotors[i].lost(field));
            }
            return sum;
        }

        int allGrips() {
            int sum = 0;
            for (int i = 0; i < rotorNumber; i++) {
                sum += rotors[i].grip;
            }
            return sum;
        }

        int allSigns() {
            int sum = 0;
            for (int i = 0; i < signNumber; i++) {
                sum += signs[i];
            }
            return sum;
        }
    }

    /** A ROTOR; sort is its KIND. */
    private static final class Rotor {
        static final int PLAIN = 0, QUICK = 1, HEAVY = 2, STIFF = 3;

        int sort;
        int grip;
        int place;
        int way;

        void become(int sort, int grip, int place) {
            this.sort = sort;
            this.grip = grip;
            this.place = place;
            way = 0;
        }

        void copyFrom(Rotor other) {
            sort = other.sort;
            grip = other.grip;
            place = other.place;
            way = other.way;
        }

        int off(int field) {
            // The mask, not %, as FIELD may lie below the place.
            return (field - place + 3 & TURN - 1) - 3;
        }

        int lost(int field) {
            return (field - place - off(field)) / TURN;
        }

        boolean slips(int field) {
            return Math.abs(off(field)) > grip;
        }

        /** What a TICK does to it: by how many places it moves. */
        int follow(int field) {
            int off = off(field);
            int gap = Math.abs(off);
            if (gap == 0 || gap > grip) {
                way = 0;
                return 0;
            }
            int side = off < 0 ? -1 : 1;
            int steps = steps(gap, side);
            place += steps * side;
            way = sort == STIFF && gap == 1 ? 0 : side;
            return steps;
        }

        private int steps(int gap, int side) {
            switch (sort) {
                case PLAIN: return 1;
                case QUICK: return gap > 1 ? 2 : 1;
                case HEAVY: return way == side ? 1 : 0;
                default: return way == side && gap > 1 ? 1 : 0;
            }
        }
    }

    /** What was SEEN: behind how many TICKS, which ROTOR, what its place leaves. */
    private static final class Sights {
        int number;
        private final int[] ticksOn;
        private final int[] who;
        private final int[] left;

        Sights() {
            ticksOn = new int[MOST_SEEN];
            who = new int[MOST_SEEN];
            left = new int[MOST_SEEN];
        }

        void copyFrom(Sights other) {
            number = other.number;
            System.arraycopy(other.ticksOn, 0, ticksOn, 0, MOST_SEEN);
            System.arraycopy(other.who, 0, who, 0, MOST_SEEN);
            System.arraycopy(other.left, 0, left, 0, MOST_SEEN);
        }

        boolean note(int n, int r, int p) {
            if (number >= MOST_SEEN) {
                return false;
            }
            ticksOn[number] = n;
            who[number] = r;
            left[number] = p;
            number++;
            return true;
        }

        /** Behind how many TICKS the last of them is due; -1 if nothing is SEEN. */
        int last() {
            int last = -1;
            for (int i = 0; i < number; i++) {
                last = Math.max(last, ticksOn[i]);
            }
            return last;
        }

        /** Whether the drive, t TICKS on, is as SEEN behind so many. */
        boolean fit(Drive drive, int t) {
            for (int i = 0; i < number; i++) {
                if (ticksOn[i] == t && Math.floorMod(drive.rotors[who[i]].place, TURN) != left[i]) {
                    return false;
                }
            }
            return true;
        }
    }

    /** An IMAGE, or room for one. */
    private static final class Image {
        boolean kept;
        final Drive drive;
        final Sights sights;

        Image() {
            drive = new Drive();
            sights = new Sights();
        }
    }

    /** A SHEET; its room is kept, so that a new row costs none. */
    private static final class Sheet {
        static final int NOTHING = -1, BYTES = 0, SHORTS = 1;
        static final int NULL = 1, INDEX = 2, CAST = 3, SIZE = 4;

        int lane;
        int size;
        final int[] cells;

        Sheet() {
            lane = NOTHING;
            cells = new int[MOST_CELLS];
        }

        void renew(int lane, int size) {
            this.lane = lane;
            this.size = size;
            for (int i = 0; i < MOST_CELLS; i++) {
                cells[i] = 0;
            }
        }

        int faultAt(int i) {
            if (lane == NOTHING) {
                return NULL;
            }
            return i < 0 || i >= size ? INDEX : 0;
        }

        /** The FAULT of reading CELLS i and i + 1 of it, taken as of a lane. */
        int faultOfPair(int asLane, int i) {
            if (lane != NOTHING && lane != asLane) {
                return CAST;
            }
            int found = faultAt(i);
            return found != 0 ? found : faultAt(i + 1);
        }

        void put(int i, int v) {
            switch (lane) {
                case BYTES: cells[i] = (byte) v; break;
                case SHORTS: cells[i] = (short) v; break;
                default: cells[i] = v; break;
            }
        }
    }
}
