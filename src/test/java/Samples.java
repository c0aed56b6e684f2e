/** Objects with something of everything, with all that there is room for, and with all below 0. */
final class Samples {
    private static final Check CHECK = new Check();

    private Samples() {
    }

    static CoilWheels something() {
        CoilWheels x = CHECK.run("heavy 3 0;plain 1 3;signs 1 3 2;every 2;", 3);
        x.see(2, 1, 5);
        x.see(0, 0, 0);
        x.sheet(0, 0, 4);
        x.lay(0, 0, 1);
        x.lay(0, 3, 2);
        x.sheet(1, 1, 0);
        x.sheet(2, 2, 6);
        x.lay(2, 5, 1);
        x.read(2, 0, 0, 1);
        Check.tell(x, "every 0;");
        Check.feed(x, "quick 2 5;every 3;");
        return x;
    }

    static CoilWheels full() {
        CoilWheels x = CHECK.told("plain 3 0;quick 2 1;heavy 3 5;stiff 3 7;signs 1 1 2 3 0 1 2 1 0 1 2 3 0 1 2 1;every 9;");
        x.keep(1);
        Check.runTo(x, 9999);
        for (int i = 0; i < 6; i++) {
            seeAhead(x, 8 * i, i % 4);
        }
        x.keep(0);
        for (int k = 0; k < 4; k++) {
            x.sheet(k, k % 3 == 0 ? 2 : k, 40);
            for (int i = 0; i < 40; i++) {
                x.lay(k, i, (i + k) % 8 == 7 ? i : i % 4);
            }
        }
        x.read(0, 0, 0, 1);
        Check.tell(x, "signs 1;signs");
        Check.feed(x, "heavy 1 4;signs 2 2;every 3;" + " ".repeat(132));
        return x;
    }

    static CoilWheels below() {
        CoilWheels x = CHECK.run("plain 3 0;quick 0 1;stiff 2 6;signs 2 2 0 2;every 3;", 97);
        x.turn(1, 0);
        x.turn(2, 3);
        x.keep(0);
        x.ticks(5);
        x.see(7, 0, 4);
        x.sheet(0, 1, 2);
        x.sheet(1, 0, 40);
        x.sheet(2, 0, 1);
        x.sheet(3, 2, 3);
        x.lay(3, 2, -5);
        x.read(0, 1, 1, 1);
        Check.tell(x, "x");
        Check.feed(x, "stiff 3 3;");
        return x;
    }

    /** All but full, so that every call has room; all ROTORS are going, two of them back; no CELL is 0. */
    static CoilWheels busy() {
        CoilWheels x = CHECK.told("heavy 3 5;heavy 3 1;stiff 3 5;plain 2 0;signs 3 1 2 2 1 3 3 2 1 1 3 2 3 1 2;every 5;");
        x.turn(2, 0);
        seeAhead(x, 1, 0);
        seeAhead(x, 13, 1);
        x.keep(0);
        x.ticks(1);
        x.turn(3, 0);
        seeAhead(x, 2, 3);
        x.keep(1);
        x.ticks(1);
        x.forget(0);
        seeAhead(x, 9, 2);
        seeAhead(x, 3, 1);
        seeAhead(x, 7, 3);
        for (int k = 0; k < 4; k++) {
            x.sheet(k, k % 3, 12);
            for (int i = 0; i < 12; i++) {
                x.lay(k, i, 1 + (i + k) % 3);
            }
        }
        x.lay(3, 11, 9);
        x.read(0, 1, 0, 2);
        Check.tell(x, "every 1; plain");
        Check.feed(x, "quick 2 5;signs 3 2 1;every 3;stiff 3 3;");
        return x;
    }

    /** As busy, but the last ROTOR is a TURN back by OFF 4, and the next SIGN ends that, whatever its GRIP is. */
    static CoilWheels losing() {
        CoilWheels x = busy();
        x.turn(3, 16);
        x.turn(3, 12);
        x.add(1);
        x.read(0, 0, 11, 1);
        x.end(0);
        Check.tell(x, "!");
        Check.feed(x, "heavy 0 1;");
        return x;
    }

    /** SEEN is what will be. */
    private static void seeAhead(CoilWheels x, int n, int r) {
        x.see(n, r, Math.floorMod(x.ahead(r, n, 0) - 100000, 8));
    }
}
