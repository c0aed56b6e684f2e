/** Promises 34, 35 and 40: keep, back, count. */
public final class ImagesTest {
    private static final Check CHECK = new Check();
    private static final String FULL_TEXT = "plain 3 0;quick 2 1;heavy 3 5;stiff 3 7;signs 0 1 2 3 0 1 2 3 0 1 2 3 0 1 2 3;every 9;";

    public static void main(String[] args) {
        keep();
        imagesStandApart();
        imageOfNothing();
        imageOfAll();
        signsAllOfThem();
        whatWasSeenComesBack();
        keepIsBad();
        back();
        backIsBadOrState();
        whatIsNotInAnImage();
        countOfMuchAndNothing();
        countOfCells();
        countIsBad();
        CHECK.finish();
    }

    private static void keep() {
        CHECK.says(34, "IMAGE k (0, 1) is FIELD, SIGNS (all of them), EVERY, TICK, ROTORS, what was SEEN: whether there was one (1, 0).");
        CoilWheels x = CHECK.told("plain 3 0;signs 1;");
        CHECK.due("keep(0)", x.keep(0), 0);
        CHECK.due("count(1)", x.count(1), 1);
        String before = Check.stateOf(x);
        CHECK.due("keep(0) again", x.keep(0), 1);
        CHECK.stays("keep(0) again", before, x);
        CHECK.due("count(1) still", x.count(1), 1);
        CHECK.due("keep(1)", x.keep(1), 0);
        CHECK.due("keep(1) again", x.keep(1), 1);
        CHECK.due("count(1) then", x.count(1), 2);
        x.back(0);
        CHECK.due("keep(0) behind back(0)", x.keep(0), 1);
        x.text();
        CHECK.due("keep(1) behind text()", x.keep(1), 0);
        CHECK.due("keep(0) behind text()", x.keep(0), 0);
    }

    private static void imagesStandApart() {
        CHECK.says(34, "IMAGE k (0, 1) is");
        CoilWheels x = CHECK.run("plain 3 0;signs 1;", 4);
        CHECK.due("keep(1)", x.keep(1), 0);
        x.ticks(5);
        CHECK.due("keep(0)", x.keep(0), 0);
        CHECK.due("back(1)", x.back(1), 4);
        CHECK.due("rotor(0, 2)", x.rotor(0, 2), 100004);
        CHECK.due("back(0)", x.back(0), 9);
        CHECK.due("rotor(0, 2) then", x.rotor(0, 2), 100009);
        CHECK.due("keep(1) again", x.keep(1), 1);
        CHECK.due("back(1) then", x.back(1), 9);
        // What is changed behind back() leaves the image.
        x.ticks(1);
        x.set(0, 3);
        x.see(0, 0, 0);
        CHECK.due("back(1) at last", x.back(1), 9);
        CHECK.due("sign(0)", x.sign(0), 1);
        CHECK.due("count(0)", x.count(0), 0);
        CHECK.due("count(1)", x.count(1), 2);
    }

    private static void imageOfNothing() {
        CHECK.says(35, "All is as IMAGE k: TICK.");
        CoilWheels x = new CoilWheels();
        CHECK.due("keep(0) of nothing", x.keep(0), 0);
        String before = Check.stateOf(x);
        x.add(1);
        x.every(5);
        x.ticks(100);
        CHECK.due("back(0) to nothing", x.back(0), 0);
        CHECK.stays("back(0) to nothing", before, x);
    }

    private static void imageOfAll() {
        CHECK.says(34, "SIGNS (all of them), EVERY, TICK, ROTORS, what was SEEN:");
        CoilWheels x = CHECK.told(FULL_TEXT);
        for (int i = 0; i < 6; i++) {
            x.see(8 * i, i % 4, i);
        }
        Check.runTo(x, 9999);
        x.keep(1);
        String kept = Check.stateOf(x);
        for (int r = 0; r < 4; r++) {
            x.turn(r, r);
            x.alter(r, 0, 3 - r);
            x.alter(r, 1, 0);
        }
        for (int i = 0; i < 16; i++) {
            x.set(i, (i + 1) % 4);
        }
        x.every(1);
        x.cut(3);
        x.forget(1);
        CHECK.due("back(1): TICK at its last", x.back(1), 9999);
        CHECK.stays("back(1)", kept, x);
        CHECK.due("ticks(1): FULL as it was", x.ticks(1), Check.FULL);
        CHECK.due("add(0): FULL as it was", x.add(0), Check.FULL);
        CHECK.due("see(0, 0, 0): FULL as it was", x.see(0, 0, 0), Check.FULL);
    }

    private static void signsAllOfThem() {
        CHECK.says(34, "SIGNS (all of them),");
        CoilWheels x = CHECK.told("signs 3 2 1 0 3 2 1 0 3 2 1 0 3 2 1 0;");
        x.keep(0);
        x.cut(0);
        x.keep(1);
        for (int i = 0; i < 16; i++) {
            x.add(2);
        }
        x.back(0);
        CHECK.row("sign(?)", x::sign, 3, 2, 1, 0, 3, 2, 1, 0, 3, 2, 1, 0, 3, 2, 1, 0, Check.BAD);
        x.back(1);
        CHECK.row("sign(?) of none", x::sign, Check.BAD, Check.BAD);
    }

    private static void whatWasSeenComesBack() {
        CHECK.says(34, "what was SEEN:");
        CoilWheels x = CHECK.told("plain 3 0;plain 3 0;signs 1;");
        x.see(3, 0, 3);
        x.keep(0);
        CHECK.due("kinds(0)", x.kinds(0), 3);
        // Each of the three numbers of it is another then.
        int[][] others = {{4, 0, 3}, {3, 1, 3}, {3, 0, 4}};
        int[] kinds = {4, 15, 0};
        for (int i = 0; i < others.length; i++) {
            x.forget(0);
            x.see(others[i][0], others[i][1], others[i][2]);
            CHECK.due("kinds(0) by another", x.kinds(0), kinds[i]);
            x.back(0);
            CHECK.due("count(0) back", x.count(0), 1);
            CHECK.due("kinds(0) back", x.kinds(0), 3);
        }
        x.forget(0);
        x.keep(1);
        x.see(0, 0, 1);
        x.back(1);
        CHECK.due("count(0): nothing was SEEN", x.count(0), 0);
        CHECK.due("kinds(0): nothing was SEEN", x.kinds(0), 15);
    }

    private static void keepIsBad() {
        CHECK.says(34, "BAD.");
        CHECK.bounds("keep(?)", 0, 1, k -> new CoilWheels().keep(k));
        CoilWheels x = CHECK.told("plain 3 0;signs 1;");
        x.keep(-1);
        x.keep(2);
        CHECK.due("count(1): what is refused is not kept", x.count(1), 0);
    }

    private static void back() {
        CHECK.says(35, "All is as IMAGE k: TICK.");
        CoilWheels x = CHECK.run("heavy 3 0;plain 1 3;signs 1 3 2;every 2;", 3);
        x.see(2, 1, 5);
        x.keep(0);
        CHECK.due("rotor(0, 3)", x.rotor(0, 3), 11);
        String kept = Check.stateOf(x);
        changeAll(x);
        CHECK.due("back(0)", x.back(0), 3);
        CHECK.stays("back(0)", kept, x);
        x.cut(0);
        CHECK.due("back(0) again", x.back(0), 3);
        CHECK.stays("back(0) again", kept, x);
        CHECK.due("back(0) without a change", x.back(0), 3);
        CHECK.stays("back(0) without a change", kept, x);
    }

    private static void changeAll(CoilWheels x) {
        x.ticks(50);
        x.turn(0, 3);
        x.turn(1, 12);
        x.alter(0, 0, 0);
        x.alter(0, 1, 1);
        x.alter(1, 0, 3);
        x.alter(1, 1, 2);
        x.set(0, 2);
        x.set(1, 0);
        x.cut(2);
        x.every(7);
        x.forget(0);
        x.see(4, 0, 1);
        x.see(5, 0, 2);
    }

    private static void backIsBadOrState() {
        CHECK.says(35, "BAD; STATE: there is none.");
        CoilWheels x = CHECK.run("plain 3 0;signs 1;", 5);
        String before = Check.stateOf(x);
        CHECK.due("back(0) of none", x.back(0), Check.STATE);
        CHECK.due("back(1) of none", x.back(1), Check.STATE);
        CHECK.bounds("back(?) of none: BAD fits first", 0, 1, x::back);
        CHECK.stays("back refused", before, x);
        x.keep(0);
        CHECK.due("back(1) of none yet", x.back(1), Check.STATE);
        x.keep(1);
        CHECK.bounds("back(?) of two", 0, 1, x::back);
        Check.tell(x, "!");
        CHECK.due("back(0) behind a text with a FAULT", x.back(0), 5);
        x.text();
        CHECK.due("back(0) behind a text", x.back(0), Check.STATE);
        CHECK.due("back(1) behind a text", x.back(1), Check.STATE);
        x.keep(1);
        CHECK.due("back(0): the other is kept", x.back(0), Check.STATE);
    }

    private static void whatIsNotInAnImage() {
        CHECK.says(35, "All is as IMAGE k:");
        CoilWheels x = CHECK.told("plain 3 0;signs 1;");
        x.keep(0);
        Check.tell(x, "!");
        x.feed('e');
        x.sheet(0, 1, 5);
        x.read(0, 0, 0, 1);
        x.keep(1);
        x.back(0);
        CHECK.due("fault()", x.fault(), 1);
        CHECK.due("torn()", x.torn(), 3);
        CHECK.due("count(1)", x.count(1), 2);
        CHECK.due("count(2)", x.count(2), 1);
        CHECK.due("count(3)", x.count(3), 5);
    }

    private static void countOfMuchAndNothing() {
        CHECK.says(40, "How many: 0 SEEN, 1 IMAGES, 2 bytes on THE TAPE, 3 CELLS of SHEET 0 (NONE: nothing), 4 GRIPS of all, "
            + "5 SIGNS as numbers, summed.");
        CHECK.row("nothing: count(?)", new CoilWheels()::count, 0, 0, 0, Check.NONE, 0, 0, Check.BAD);
        CoilWheels x = CHECK.told("plain 3 0;quick 2 1;stiff 1 0;signs 1 3 2 3;");
        x.see(0, 0, 0);
        x.see(0, 0, 0);
        x.keep(1);
        Check.feed(x, "abc");
        CHECK.row("some: count(?)", x::count, 2, 1, 3, Check.NONE, 6, 9, Check.BAD);
        x.cut(2);
        x.alter(0, 1, 0);
        x.forget(1);
        CHECK.row("less: count(?)", x::count, 1, 1, 3, Check.NONE, 3, 4, Check.BAD);
        CoilWheels full = CHECK.told("plain 3 0;quick 3 1;heavy 3 0;stiff 3 0;signs 3 3 3 3 3 3 3 3 3 3 3 3 3 3 3 3;");
        for (int i = 0; i < 6; i++) {
            full.see(0, 0, 0);
        }
        full.keep(0);
        full.keep(1);
        full.sheet(0, 0, 40);
        Check.feed(full, " ".repeat(160));
        CHECK.row("full: count(?)", full::count, 6, 2, 160, 40, 12, 48, Check.BAD);
    }

    private static void countOfCells() {
        CHECK.says(40, "3 CELLS of SHEET 0 (NONE: nothing),");
        CoilWheels x = new CoilWheels();
        for (int k = 1; k < 4; k++) {
            x.sheet(k, 0, 9);
        }
        CHECK.due("count(3): the others do not count", x.count(3), Check.NONE);
        for (int lane = 0; lane <= 2; lane++) {
            x.sheet(0, lane, 0);
            CHECK.due("count(3) of an empty row", x.count(3), 0);
            x.sheet(0, lane, 40);
            CHECK.due("count(3) of a full row", x.count(3), 40);
        }
        x.sheet(0, 0, -1);
        CHECK.due("count(3) behind a row below 0", x.count(3), 40);
    }

    private static void countIsBad() {
        CHECK.says(40, "BAD.");
        CHECK.bounds("count(?)", 0, 5, CHECK.told("plain 3 0;signs 1;")::count);
        CHECK.bounds("count(?) of nothing", 0, 5, new CoilWheels()::count);
    }
}
