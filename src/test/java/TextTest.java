/** Promises 1 to 8: a new object, feed, end, text, fault, rule, rotor, sign. */
public final class TextTest {
    private static final Check CHECK = new Check();

    public static void main(String[] args) {
        newObject();
        feed();
        end();
        textsThatAreTaken();
        textsThatAreNotTokens();
        textsWithMisplacedTokens();
        textsWithNumbersOutOfBounds();
        textsThatTellTwiceOrTooMuch();
        faultLeavesWhatWasTold();
        textTellsAll();
        ruleAndRotor();
        sign();
        CHECK.finish();
    }

    private static void newObject() {
        CoilWheels x = new CoilWheels();
        int[] rules = {0, 0, 0, 1, 100000, 0, 0, Check.BAD};
        for (int what = 0; what < rules.length; what++) {
            CHECK.due("new: rule(" + what + ")", x.rule(what), rules[what]);
        }
        int[] counts = {0, 0, 0, Check.NONE, 0, 0, Check.BAD};
        for (int what = 0; what < counts.length; what++) {
            CHECK.due("new: count(" + what + ")", x.count(what), counts[what]);
        }
        for (int k = 0; k < 4; k++) {
            CHECK.due("new: lay(" + k + ", 0, 0)", x.lay(k, 0, 0), -11);
        }
        CHECK.due("new: rotor(0, 0)", x.rotor(0, 0), Check.BAD);
        CHECK.due("new: sign(0)", x.sign(0), Check.BAD);
        CHECK.due("new: fault()", x.fault(), 0);
        CHECK.due("new: torn()", x.torn(), 0);
        CHECK.due("new: back(0)", x.back(0), Check.STATE);
        CHECK.due("new: back(1)", x.back(1), Check.STATE);
        CHECK.due("new: ticks(100)", x.ticks(100), 0);
        CHECK.due("new: rule(2) then", x.rule(2), 100);
        CHECK.due("new: rule(4) then", x.rule(4), 100000);
    }

    private static void feed() {
        CoilWheels x = new CoilWheels();
        CHECK.due("feed(0)", x.feed(0), 1);
        CHECK.due("feed(127)", x.feed(127), 2);
        CHECK.due("feed(128)", x.feed(128), Check.BAD);
        for (int c : Check.EXTREMES) {
            CHECK.due("feed(" + c + ")", x.feed(c), Check.BAD);
        }
        for (int n = 3; n <= 160; n++) {
            CHECK.due("feed(32) as byte " + n, x.feed(32), n);
        }
        CHECK.due("feed(32) as byte 161", x.feed(32), Check.FULL);
        CHECK.due("feed(128) as byte 161", x.feed(128), Check.BAD);
        CHECK.due("count(2)", x.count(2), 160);
    }

    private static void end() {
        CoilWheels x = new CoilWheels();
        CHECK.due("end(0) of none", x.end(0), 0);
        CHECK.due("end(1) of none", x.end(1), Check.BAD);
        Check.feed(x, "every 5;xx");
        CHECK.due("end(11)", x.end(11), Check.BAD);
        for (int n : Check.EXTREMES) {
            CHECK.due("end(" + n + ")", x.end(n), Check.BAD);
        }
        CHECK.due("end(10)", x.end(10), 10);
        CHECK.due("end(8)", x.end(8), 10);
        CHECK.due("end(8) again", x.end(8), 8);
        CHECK.due("end(9)", x.end(9), Check.BAD);
        CHECK.due("text()", x.text(), 1);
        CHECK.due("rule(3)", x.rule(3), 5);
        Check.feed(x, "every 5;");
        CHECK.due("end(0)", x.end(0), 8);
        CHECK.due("text() of none", x.text(), 0);
        CHECK.due("rule(3) then", x.rule(3), 1);
    }

    private static void textsThatAreTaken() {
        taken("", 0);
        taken("   ", 0);
        taken("plain 1 2;", 1);
        taken("  plain   1   2  ;  ", 1);
        taken("plain1 2;quick3 07;", 2);
        taken("plain 03 00;", 1);
        taken("every 09;", 1);
        taken("every 1;signs 3;", 2);
        taken("signs 0 01 2 3;", 1);
        taken("signs 0 1 2 3 0 1 2 3 0 1 2 3 0 1 2 3;", 1);
        taken("plain 0 0;quick 1 1;heavy 2 2;stiff 3 7;signs 1;every 9;", 6);
        taken(" ".repeat(152) + "every 2;", 1);
    }

    private static void textsThatAreNotTokens() {
        faulty("!", 1, 0);
        faulty("Plain 1 2;", 1, 0);
        faulty("plainX 1 2;", 1, 5);
        faulty("plain 1,2;", 1, 7);
        faulty("plain 1 2;\n", 1, 10);
        faulty("plain 1 2:", 1, 9);
        faulty("plain\t1 2;", 1, 5);
        faulty("plain -1 2;", 1, 6);
        faulty("\0", 1, 0);
        faulty("`", 1, 0);
        faulty("{", 1, 0);
        faulty("/", 1, 0);
        faulty("plain 123 2;", 1, 6);
        faulty("plain 000 2;", 1, 6);
        faulty("  123", 1, 2);
        faulty("signs 1 1 001;", 1, 10);
        faulty("plain 1 2;every 1;!", 1, 18);
    }

    private static void textsWithMisplacedTokens() {
        faulty(";", 2, 0);
        faulty("7", 2, 0);
        faulty("x", 2, 0);
        faulty("a", 2, 0);
        faulty("z", 2, 0);
        faulty("plaiz 1 2;", 2, 0);
        for (String name : new String[] {"plain", "quick", "heavy", "stiff", "signs", "every"}) {
            for (int i = 0; i < name.length(); i++) {
                faulty(name.substring(0, i) + "x" + name.substring(i + 1) + " 1;", 2, 0);
            }
        }
        faulty("plai 1 2;", 2, 0);
        faulty("plains 1 2;", 2, 0);
        faulty("signsignsigns 1;", 2, 0);
        faulty("every 1;;", 2, 8);
        faulty("every 1; stuff", 2, 9);
        faulty("plain", 2, 5);
        faulty("plain  ", 2, 7);
        faulty("plain;", 2, 5);
        faulty("plain a 2;", 2, 6);
        faulty("plain 1", 2, 7);
        faulty("plain 1;", 2, 7);
        faulty("plain 1 2", 2, 9);
        faulty("plain 1 2 ", 2, 10);
        faulty("plain 1 2 3;", 2, 10);
        faulty("plain 1 2 plain", 2, 10);
        faulty("signs", 2, 5);
        faulty("signs;", 2, 5);
        faulty("signs 1", 2, 7);
        faulty("signs 1 2 ", 2, 10);
        faulty("signs 1 every 1;", 2, 8);
        faulty("every", 2, 5);
        faulty("every;", 2, 5);
        faulty("every 1", 2, 7);
        faulty("every 1 1;", 2, 8);
        faulty("signs 0 1 2 3 0 1 2 3 0 1 2 3 0 1 2 3", 2, 37);
        faulty("signs 0 1 2 3 0 1 2 3 0 1 2 3 0 1 2 3 x", 2, 38);
        faulty(" ".repeat(153) + "every 2", 2, 160);
    }

    private static void textsWithNumbersOutOfBounds() {
        faulty("plain 4 0;", 3, 6);
        faulty("plain 4", 3, 6);
        faulty("plain 4!", 3, 6);
        faulty("quick 99 0;", 3, 6);
        faulty("heavy 0 8;", 3, 8);
        faulty("stiff 3  10;", 3, 9);
        faulty("signs 4;", 3, 6);
        faulty("signs 0 3 4 x", 3, 10);
        faulty("every 0;", 3, 6);
        faulty("every 10;", 3, 6);
    }

    private static void textsThatTellTwiceOrTooMuch() {
        faulty("signs 1;signs 1;", 4, 8);
        faulty("signs 1; every 2; signs", 4, 18);
        faulty("every 1;every 1;", 4, 8);
        faulty("every 1;every 0;", 4, 8);
        String four = "plain 0 0;quick 1 1;heavy 2 2;stiff 3 3;";
        for (String name : new String[] {"plain", "quick", "heavy", "stiff"}) {
            faulty(four + name, 5, 40);
        }
        faulty(four + "x", 2, 40);
        faulty(four + " plain 9 9;", 5, 41);
        String sixteen = "signs 0 1 2 3 0 1 2 3 0 1 2 3 0 1 2 3";
        faulty(sixteen + " 0;", 5, 38);
        faulty(sixteen + " 4;", 5, 38);
        faulty(sixteen + " 99", 5, 38);
        faulty(sixteen + " 100", 1, 38);
    }

    private static void faultLeavesWhatWasTold() {
        CoilWheels x = CHECK.told("stiff 3 5;signs 1 2 0;every 4;");
        x.ticks(7);
        x.see(1, 0, 5);
        x.keep(1);
        Check.feed(x, "plain 1 2;signs 3;every 1;quick 5 5;");
        CHECK.due("text() with a fault", x.text(), -42);
        CHECK.due("fault()", x.fault(), 3);
        CHECK.due("count(2): the tape is empty", x.count(2), 0);
        CHECK.due("rule(0)", x.rule(0), 1);
        CHECK.due("rotor(0, 0)", x.rotor(0, 0), 3);
        CHECK.due("rotor(0, 1)", x.rotor(0, 1), 3);
        // OFF 4 slips while the FIELD is at 1; back at 0, OFF 3 sets it going, and it moves twice.
        CHECK.due("rotor(0, 2)", x.rotor(0, 2), 100007);
        CHECK.due("rule(1)", x.rule(1), 3);
        CHECK.due("sign(0)", x.sign(0), 1);
        CHECK.due("rule(2)", x.rule(2), 7);
        CHECK.due("rule(3)", x.rule(3), 4);
        CHECK.due("rule(4)", x.rule(4), 100000);
        CHECK.due("count(0)", x.count(0), 1);
        CHECK.due("count(1)", x.count(1), 1);
        x.runs(5, 0);
        x.feed(-1);
        CHECK.due("fault() stays", x.fault(), 3);
        CHECK.due("text() without one", x.text(), 0);
        CHECK.due("fault() then", x.fault(), 0);
    }

    private static void textTellsAll() {
        CoilWheels x = CHECK.told("stiff 3 5;plain 1 1;signs 1 1 1;every 2;");
        x.ticks(3);
        x.see(1, 0, 5);
        x.keep(0);
        x.keep(1);
        x.sheet(0, 0, 3);
        CHECK.due("text()", Check.tell(x, "heavy 2 6;"), 1);
        // OFF 2 (-6 and a turn), LOST -1.
        int[] rules = {1, 0, 0, 1, 100000, 0, 1};
        for (int what = 0; what < rules.length; what++) {
            CHECK.due("told anew: rule(" + what + ")", x.rule(what), rules[what]);
        }
        int[] rotor = {2, 2, 100006, 10, 12, 99999};
        for (int what = 0; what < rotor.length; what++) {
            CHECK.due("told anew: rotor(0, " + what + ")", x.rotor(0, what), rotor[what]);
        }
        int[] counts = {0, 0, 0, 3, 2, 0};
        for (int what = 0; what < counts.length; what++) {
            CHECK.due("told anew: count(" + what + ")", x.count(what), counts[what]);
        }
        CHECK.due("told anew: back(0)", x.back(0), Check.STATE);
        CHECK.due("told anew: back(1)", x.back(1), Check.STATE);
    }

    private static void ruleAndRotor() {
        CoilWheels x = CHECK.told("plain 0 0;quick 1 1;heavy 2 4;stiff 3 5;");
        // OFF 0, -1, 4 (not -4), 3 (-5 and a turn): the third alone slips; LOST 0, 0, -1, -1.
        CHECK.due("rule(5)", x.rule(5), 4);
        int[] offs = {10, 9, 14, 13};
        int[] losts = {100000, 100000, 99999, 99999};
        for (int r = 0; r < 4; r++) {
            CHECK.due("rotor(" + r + ", 0)", x.rotor(r, 0), r);
            CHECK.due("rotor(" + r + ", 1)", x.rotor(r, 1), r);
            CHECK.due("rotor(" + r + ", 3)", x.rotor(r, 3), 10);
            CHECK.due("rotor(" + r + ", 4)", x.rotor(r, 4), offs[r]);
            CHECK.due("rotor(" + r + ", 5)", x.rotor(r, 5), losts[r]);
        }
        CHECK.due("rule(6)", x.rule(6), 2);
        CHECK.due("rule(-1)", x.rule(-1), Check.BAD);
        CHECK.due("rule(7)", x.rule(7), Check.BAD);
        CHECK.due("rotor(4, 0)", x.rotor(4, 0), Check.BAD);
        CHECK.due("rotor(-1, 0)", x.rotor(-1, 0), Check.BAD);
        CHECK.due("rotor(0, 6)", x.rotor(0, 6), Check.BAD);
        CHECK.due("rotor(0, -1)", x.rotor(0, -1), Check.BAD);
        for (int grip = 0; grip <= 3; grip++) {
            x.alter(3, 1, grip);
            CHECK.due("rule(5) by grip " + grip, x.rule(5), grip < 3 ? 12 : 4);
        }
        CHECK.due("turn(0, 7)", x.turn(0, 7), 99999);
        CHECK.due("rule(5) with the first", x.rule(5), 5);
        CHECK.due("turn(0, 9)", x.turn(0, 9), 100000);
        // ALL LOST is summed without signs: LOST 1, 0, -1, -1.
        x.turn(0, 0);
        CHECK.due("rule(6) then", x.rule(6), 3);
    }

    private static void sign() {
        CoilWheels x = CHECK.told("signs 3 2 1 0;");
        for (int i = 0; i < 4; i++) {
            CHECK.due("sign(" + i + ")", x.sign(i), 3 - i);
        }
        CHECK.due("sign(4)", x.sign(4), Check.BAD);
        for (int i : Check.EXTREMES) {
            CHECK.due("sign(" + i + ")", x.sign(i), Check.BAD);
        }
    }

    private static void taken(String text, int lines) {
        CoilWheels x = new CoilWheels();
        CHECK.due("text() of '" + text + "'", Check.tell(x, text), lines);
        CHECK.due("fault() of '" + text + "'", x.fault(), 0);
        CHECK.due("count(2) behind '" + text + "'", x.count(2), 0);
    }

    private static void faulty(String text, int fault, int place) {
        CoilWheels x = new CoilWheels();
        CHECK.due("text() of '" + text + "'", Check.tell(x, text), -10 - place);
        CHECK.due("fault() of '" + text + "'", x.fault(), fault);
        CHECK.due("count(2) behind '" + text + "'", x.count(2), 0);
        CHECK.due("rule(0) behind '" + text + "'", x.rule(0), 0);
        CHECK.due("rule(1) behind '" + text + "'", x.rule(1), 0);
    }
}
