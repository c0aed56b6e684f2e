/** Promises 34, 35 and 40: keep, back, count. */
public final class ImagesTest {
    private static final Check CHECK = new Check();

    public static void main(String[] args) {
        keepAndBack();
        imagesStandApart();
        whatWasSeenComesBack();
        whatIsNotInAnImage();
        count();
        CHECK.finish();
    }

    private static void keepAndBack() {
        CoilWheels x = CHECK.told("heavy 3 0;plain 1 3;signs 1 3 2;every 2;");
        x.ticks(3);
        x.see(2, 1, 5);
        for (int k : new int[] {Integer.MIN_VALUE, -1, 2, Integer.MAX_VALUE}) {
            CHECK.due("keep(" + k + ")", x.keep(k), Check.BAD);
            CHECK.due("back(" + k + ")", x.back(k), Check.BAD);
        }
        CHECK.due("back(0) of none", x.back(0), Check.STATE);
        CHECK.due("back(1) of none", x.back(1), Check.STATE);
        CHECK.due("keep(0)", x.keep(0), 0);
        CHECK.due("back(1) of none yet", x.back(1), Check.STATE);
        CHECK.due("rotor(0, 3)", x.rotor(0, 3), 11);
        String kept = Check.stateOf(x);
        changeAll(x);
        CHECK.due("back(0)", x.back(0), 3);
        CHECK.stays("back(0)", kept, x);
        x.cut(0);
        CHECK.due("back(0) again", x.back(0), 3);
        CHECK.stays("back(0) again", kept, x);
        CHECK.due("keep(0) again", x.keep(0), 1);
        CHECK.due("count(1)", x.count(1), 1);
    }

    private static void changeAll(CoilWheels x) {
        x.ticks(50);
        x.turn(0, 3);
        x.turn(1, 12);
        x.alter(0, 0, 0);
        x.alter(0, 1, 1);
        x.alter(1, 0, 3);
        x.alter(1, 1, 2);
        x.set(0, 2);
        x.set(1, 0);
        x.cut(2);
        x.every(7);
        x.forget(0);
        x.see(4, 0, 1);
        x.see(5, 0, 2);
    }

    private static void imagesStandApart() {
        CoilWheels x = CHECK.told("plain 3 0;signs 1;");
        x.ticks(4);
        CHECK.due("keep(1)", x.keep(1), 0);
        x.ticks(5);
        CHECK.due("keep(0)", x.keep(0), 0);
        CHECK.due("back(1)", x.back(1), 4);
        CHECK.due("rotor(0, 2)", x.rotor(0, 2), 100004);
        CHECK.due("back(0)", x.back(0), 9);
        CHECK.due("rotor(0, 2) then", x.rotor(0, 2), 100009);
        CHECK.due("keep(1) again", x.keep(1), 1);
        CHECK.due("back(1) then", x.back(1), 9);
        // What is changed behind back() leaves the image.
        x.ticks(1);
        x.set(0, 3);
        x.see(0, 0, 0);
        CHECK.due("back(1) at last", x.back(1), 9);
        CHECK.due("sign(0)", x.sign(0), 1);
        CHECK.due("count(0)", x.count(0), 0);
        CHECK.due("count(1)", x.count(1), 2);
    }

    private static void whatWasSeenComesBack() {
        CoilWheels x = CHECK.told("plain 3 0;plain 3 0;signs 1;");
        x.see(3, 0, 3);
        x.keep(0);
        CHECK.due("kinds(0)", x.kinds(0), 3);
        // Each of the three numbers of it is another then.
        int[][] others = {{4, 0, 3}, {3, 1, 3}, {3, 0, 4}};
        int[] kinds = {4, 15, 0};
        for (int i = 0; i < others.length; i++) {
            x.forget(0);
            x.see(others[i][0], others[i][1], others[i][2]);
            CHECK.due("kinds(0) by another", x.kinds(0), kinds[i]);
            x.back(0);
            CHECK.due("count(0) back", x.count(0), 1);
            CHECK.due("kinds(0) back", x.kinds(0), 3);
        }
    }

    private static void whatIsNotInAnImage() {
        CoilWheels x = CHECK.told("plain 3 0;signs 1;");
        x.keep(0);
        Check.tell(x, "!");
        x.feed('e');
        x.sheet(0, 1, 5);
        x.read(0, 0, 0, 1);
        x.back(0);
        CHECK.due("fault()", x.fault(), 1);
        CHECK.due("torn()", x.torn(), 3);
        CHECK.due("count(2)", x.count(2), 1);
        CHECK.due("count(3)", x.count(3), 5);
    }

    private static void count() {
        CoilWheels x = CHECK.told("plain 3 0;quick 2 1;stiff 1 0;signs 1 3 2 3;");
        x.see(0, 0, 0);
        x.see(0, 0, 0);
        x.feed('a');
        x.feed('b');
        x.feed('c');
        CHECK.due("count(0)", x.count(0), 2);
        CHECK.due("count(1)", x.count(1), 0);
        x.keep(1);
        CHECK.due("count(1) then", x.count(1), 1);
        x.keep(0);
        CHECK.due("count(1) at last", x.count(1), 2);
        CHECK.due("count(2)", x.count(2), 3);
        x.sheet(1, 0, 9);
        CHECK.due("count(3)", x.count(3), Check.NONE);
        x.sheet(0, 0, 0);
        CHECK.due("count(3) of an empty row", x.count(3), 0);
        x.sheet(0, 2, 40);
        CHECK.due("count(3) then", x.count(3), 40);
        CHECK.due("count(4)", x.count(4), 6);
        CHECK.due("count(5)", x.count(5), 9);
        x.cut(2);
        CHECK.due("count(5) then", x.count(5), 4);
        CHECK.due("count(6)", x.count(6), Check.BAD);
        for (int what : Check.EXTREMES) {
            CHECK.due("count(" + what + ")", x.count(what), Check.BAD);
        }
    }
}
