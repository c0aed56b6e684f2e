import java.util.function.IntToLongFunction;

/** The texts under FIELD that tell of THE TAPE, and promises 1 to 8: a new object, feed, end, text, fault, rule, rotor, sign. */
public final class TextTest {
    private static final Check CHECK = new Check();
    private static final int TERMS = Check.TERMS;
    private static final String[] KINDS = {"plain", "quick", "heavy", "stiff"};
    private static final String FOUR = "plain 0 0;quick 1 1;heavy 2 2;stiff 3 3;";
    private static final String SIXTEEN = "signs 0 1 2 3 0 1 2 3 0 1 2 3 0 1 2 3";

    public static void main(String[] args) {
        newObject();
        feedTakesBytes();
        feedWhenFull();
        tapeHasPlaces();
        end();
        tokens();
        textsOfLines();
        rotorsAreTold();
        signsAreTold();
        everyIsTold();
        firstFault();
        notATokenOrTooLong();
        misplaced();
        theEnd();
        outOfBounds();
        secondTime();
        fifthRotor();
        seventeenthSign();
        textTellsAll();
        textEmptiesTheTape();
        faultLeavesWhatWasTold();
        faultOfTheLatest();
        rule();
        rotor();
        sign();
        CHECK.finish();
    }

    private static void newObject() {
        CHECK.says(1, "No ROTORS, no SIGNS; SHEETS of nothing.");
        CoilWheels x = new CoilWheels();
        CHECK.row("new: rule(?)", x::rule, 0, 0, 0, 1, 100000, 0, 0, Check.BAD);
        CHECK.row("new: count(?)", x::count, 0, 0, 0, Check.NONE, 0, 0, Check.BAD);
        for (int k = 0; k < 4; k++) {
            CHECK.due("new: lay(" + k + ", 0, 0)", x.lay(k, 0, 0), -11);
            CHECK.due("new: read(" + k + ", 0, 0, 1)", x.read(k, 0, 0, 1), 0);
            CHECK.due("new: torn() of it", x.torn(), 1);
        }
        CHECK.takesNone("new: rotor(?, 0)", r -> x.rotor(r, 0));
        CHECK.takesNone("new: sign(?)", x::sign);
        CHECK.due("new: torn()", new CoilWheels().torn(), 0);
        CHECK.due("new: fault()", x.fault(), 0);
        CHECK.due("new: back(0)", x.back(0), Check.STATE);
        CHECK.due("new: back(1)", x.back(1), Check.STATE);
        CHECK.due("new: ticks(100)", x.ticks(100), 0);
        CHECK.due("new: rule(2) then", x.rule(2), 100);
        CHECK.due("new: rule(4) then", x.rule(4), 100000);
    }

    private static void feedTakesBytes() {
        CHECK.says(2, "A byte (0 to 127) comes behind THE TAPE: how many it has.");
        CHECK.bounds("feed(?)", 0, 127, c -> new CoilWheels().feed(c));
        CoilWheels x = new CoilWheels();
        String text = "every 7;";
        for (int i = 0; i < text.length(); i++) {
            CHECK.due("feed as byte " + (i + 1), x.feed(text.charAt(i)), i + 1);
            CHECK.due("feed(128) is no byte", x.feed(128), Check.BAD);
            CHECK.due("feed(-1) is no byte", x.feed(-1), Check.BAD);
            CHECK.due("feed(256 and a blank) is no byte", x.feed(256 + 32), Check.BAD);
        }
        CHECK.due("text(): they came by order, and nothing else", x.text(), 1);
        CHECK.due("rule(3)", x.rule(3), 7);
    }

    private static void feedWhenFull() {
        CHECK.says(2, "BAD; FULL: more than 160.");
        CoilWheels x = new CoilWheels();
        Check.feed(x, " ".repeat(151) + "every 6;");
        CHECK.due("feed(32) as byte 160", x.feed(32), 160);
        CHECK.due("feed(32) as byte 161", x.feed(32), Check.FULL);
        CHECK.due("feed('!') as byte 161", x.feed('!'), Check.FULL);
        CHECK.bounds("feed(?) as byte 161", 0, 127, x::feed);
        CHECK.due("count(2)", x.count(2), 160);
        CHECK.due("end(159)", x.end(159), 160);
        CHECK.due("feed(32) as byte 160 again", x.feed(32), 160);
        CHECK.due("feed(32) as byte 161 again", x.feed(32), Check.FULL);
        CHECK.due("text(): what was refused did not come", x.text(), 1);
        CHECK.due("rule(3)", x.rule(3), 6);
        CHECK.due("feed(32) on an empty tape", x.feed(32), 1);
    }

    private static void tapeHasPlaces() {
        CHECK.says(TERMS, "THE TAPE has 160 bytes, places from 0.");
        faulty("!", 1, 0);
        faulty(" !", 1, 1);
        faulty(" ".repeat(159) + "!", 1, 159);
        faulty(" ".repeat(153) + "every 2", 2, 160);
        taken(" ".repeat(160), 0);
        taken(" ".repeat(152) + "every 2;", 1);
        taken(FOUR + SIXTEEN + ";every 9;" + " ".repeat(73), 6);
    }

    private static void end() {
        CHECK.says(3, "THE TAPE keeps its first n bytes: how many it had.", "BAD.");
        CoilWheels x = new CoilWheels();
        CHECK.bounds("end(?) of none", 0, 0, x::end);
        CHECK.due("end(0) of none", x.end(0), 0);
        Check.feed(x, "every 5;xx");
        CHECK.due("end(11)", x.end(11), Check.BAD);
        for (int n : Check.EXTREMES) {
            CHECK.due("end(" + n + ")", x.end(n), Check.BAD);
        }
        CHECK.due("count(2): what is refused leaves them", x.count(2), 10);
        CHECK.due("end(10)", x.end(10), 10);
        CHECK.due("end(8)", x.end(8), 10);
        CHECK.due("end(8) again", x.end(8), 8);
        CHECK.due("end(9)", x.end(9), Check.BAD);
        CHECK.due("text(): the first ones", x.text(), 1);
        CHECK.due("rule(3)", x.rule(3), 5);
        Check.feed(x, "every 5;");
        CHECK.due("end(0)", x.end(0), 8);
        CHECK.due("count(2)", x.count(2), 0);
        CHECK.due("text() of none", x.text(), 0);
        CHECK.due("rule(3) then", x.rule(3), 1);
        Check.feed(x, " ".repeat(160));
        CHECK.due("end(161) of a full tape", x.end(161), Check.BAD);
        CHECK.due("end(160) of a full tape", x.end(160), 160);
        CHECK.due("end(1) of a full tape", x.end(1), 160);
        CHECK.due("count(2) then", x.count(2), 1);
    }

    private static void tokens() {
        CHECK.says(TERMS, "TOKENS, each as long as may be, blanks (32) between: NAMES (a .. z), NUMBERS (1 or 2 figures), one ; .");
        taken("  plain   1   2  ;  ", 1);
        taken("plain1 2;quick3 07;", 2);
        taken("plain 03 00;", 1);
        taken("every 09;", 1);
        taken("every9;", 1);
        // As long as may be: one NAME, one NUMBER, where two would do.
        faulty("plainplain 1 2;", 2, 0);
        faulty("plain 12;", 3, 6);
        faulty("signs 11;", 3, 6);
        faulty("pla in 1 2;", 2, 0);
        // Each ; is one of its own.
        faulty("every 1;;", 2, 8);
        // The first and the last of each kind, and their neighbours; no other blank than 32.
        faulty("a", 2, 0);
        faulty("z", 2, 0);
        faulty("0", 2, 0);
        faulty("9", 2, 0);
        faulty(";", 2, 0);
        for (char c : new char[] {'`', '{', '/', ':', '<', '!', 31, 9, 10, 13, 0, 127, 'A', 'P', 'Z'}) {
            faulty(String.valueOf(c), 1, 0);
        }
    }

    private static void textsOfLines() {
        CHECK.says(TERMS, "text: { line } line: plain N N ; | quick N N ; | heavy N N ; | stiff N N ; | signs N { N } ; | every N ;");
        taken("", 0);
        taken("   ", 0);
        taken("plain 1 2;", 1);
        taken("quick 1 2;", 1);
        taken("heavy 1 2;", 1);
        taken("stiff 1 2;", 1);
        taken("signs 1;", 1);
        taken("signs 1 2;", 1);
        taken("every 1;", 1);
        taken("every 1;signs 3;plain 0 0;", 3);
        taken(FOUR + SIXTEEN + ";every 9;", 6);
        taken("every 9;stiff 3 7;" + SIXTEEN + ";heavy 0 0;", 4);
    }

    private static void rotorsAreTold() {
        CHECK.says(TERMS, "plain, quick, heavy, stiff: a ROTOR more of that KIND: GRIP, its place (0 to 7).");
        for (int kind = 0; kind < 4; kind++) {
            String name = KINDS[kind];
            CHECK.row(name + " 0 0: rotor(0, ?)", at(CHECK.told(name + " 0 0;"), 0), kind, 0, 100000, 10);
            CHECK.row(name + " 3 7: rotor(0, ?)", at(CHECK.told(name + " 3 7;"), 0), kind, 3, 100007, 10);
            faulty(name + " 4 7;", 3, 6);
            faulty(name + " 3 8;", 3, 8);
        }
        CoilWheels x = CHECK.told("stiff 2 6;plain 1 5;stiff 3 0;quick 0 7;");
        CHECK.row("by order: rotor(0, ?)", at(x, 0), 3, 2, 100006);
        CHECK.row("by order: rotor(1, ?)", at(x, 1), 0, 1, 100005);
        CHECK.row("by order: rotor(2, ?)", at(x, 2), 3, 3, 100000);
        CHECK.row("by order: rotor(3, ?)", at(x, 3), 1, 0, 100007);
        CHECK.due("rule(0)", x.rule(0), 4);
    }

    private static void signsAreTold() {
        CHECK.says(TERMS, "signs: SIGNS (1 to 16; 0 to 3 each).");
        CoilWheels one = CHECK.told("signs 3;");
        CHECK.row("one: sign(?)", one::sign, 3, Check.BAD);
        CHECK.row("four: sign(?)", CHECK.told("signs 0 1 02 3;")::sign, 0, 1, 2, 3, Check.BAD);
        CoilWheels all = CHECK.told(SIXTEEN + ";");
        CHECK.row("sixteen: sign(?)", all::sign, 0, 1, 2, 3, 0, 1, 2, 3, 0, 1, 2, 3, 0, 1, 2, 3, Check.BAD);
        CHECK.due("sixteen: rule(1)", all.rule(1), 16);
        faulty("signs;", 2, 5);
        faulty("signs 4;", 3, 6);
        faulty("signs 0 1 2 4;", 3, 12);
        faulty(SIXTEEN + " 3;", 5, 38);
    }

    private static void everyIsTold() {
        CHECK.says(TERMS, "every: EVERY.");
        CHECK.due("every 1: rule(3)", CHECK.told("every 1;").rule(3), 1);
        CHECK.due("every 9: rule(3)", CHECK.told("every 9;").rule(3), 9);
        CHECK.due("no every: rule(3)", CHECK.told("signs 1;").rule(3), 1);
        faulty("every 0;", 3, 6);
        faulty("every 10;", 3, 6);
    }

    private static void firstFault() {
        CHECK.says(TERMS, "FAULTS, the first met as it is read (a TOKEN is read when the one before has been taken):");
        faulty("plain 4 9!", 3, 6);
        faulty("plain 4!", 3, 6);
        faulty("plain 4", 3, 6);
        faulty("plain 9 123;", 3, 6);
        faulty("plain 1 8!", 3, 8);
        faulty("x!", 2, 0);
        faulty("every 0", 3, 6);
        faulty("every 0!", 3, 6);
        faulty("signs 0 3 4 x", 3, 10);
        faulty("signs 0 3 x 4", 2, 10);
        faulty("every 1;every 0;", 4, 8);
        faulty("every 0;every 1;", 3, 6);
        faulty("signs 1;signs!", 4, 8);
        faulty(FOUR + "plain 9 9;", 5, 40);
        faulty(FOUR + "plain!", 5, 40);
        faulty(FOUR + "x", 2, 40);
        faulty(FOUR + "!", 1, 40);
        faulty(SIXTEEN + " 4!", 5, 38);
        faulty(SIXTEEN + "! 4", 1, 37);
    }

    private static void notATokenOrTooLong() {
        CHECK.says(TERMS, "1 no TOKEN, a NUMBER that is too long (its first byte).");
        faulty("Plain 1 2;", 1, 0);
        faulty("plainX 1 2;", 1, 5);
        faulty("plain 1,2;", 1, 7);
        faulty("plain 1 2;\n", 1, 10);
        faulty("plain 1 2:", 1, 9);
        faulty("plain\t1 2;", 1, 5);
        faulty("plain -1 2;", 1, 6);
        faulty("plain 1 2;every 1;!", 1, 18);
        faulty("plain 123 2;", 1, 6);
        faulty("plain 000 2;", 1, 6);
        faulty("plain 1 0000;", 1, 8);
        faulty("  123", 1, 2);
        faulty("100", 1, 0);
        faulty("99", 2, 0);
        faulty("signs 1 1 001;", 1, 10);
        faulty("every 001;", 1, 6);
        faulty("every 1 111;", 1, 8);
        faulty("0".repeat(160), 1, 0);
        faulty(SIXTEEN + " 100", 1, 38);
        taken("every 01;", 1);
    }

    private static void misplaced() {
        CHECK.says(TERMS, "2 a TOKEN that can not stand there (a NAME that begins no line;");
        faulty(";", 2, 0);
        faulty("7", 2, 0);
        faulty("x", 2, 0);
        for (String name : new String[] {"plain", "quick", "heavy", "stiff", "signs", "every"}) {
            for (int i = 0; i < name.length(); i++) {
                faulty(name.substring(0, i) + "x" + name.substring(i + 1) + " 1;", 2, 0);
            }
            faulty(name.substring(0, 4) + " 1 2;", 2, 0);
            faulty(name.substring(1) + " 1 2;", 2, 0);
            faulty(name + "s 1 2;", 2, 0);
            faulty(name + ";", 2, 5);
            faulty(name + " x", 2, 6);
            faulty(name + " " + name, 2, 6);
            faulty("every 1; " + name.substring(0, 4), 2, 9);
        }
        faulty("a".repeat(160), 2, 0);
        faulty("every 1; stuff", 2, 9);
        for (String name : KINDS) {
            faulty(name + " 1;", 2, 7);
            faulty(name + " 1 a", 2, 8);
            faulty(name + " 1 2 3;", 2, 10);
            faulty(name + " 1 2 plain", 2, 10);
        }
        faulty("signs 1 every 1;", 2, 8);
        faulty("every 1 1;", 2, 8);
        faulty("every 1 every", 2, 8);
        faulty(SIXTEEN + " x", 2, 38);
    }

    private static void theEnd() {
        CHECK.says(TERMS, "or the end: the length).");
        faulty("plain", 2, 5);
        faulty("plain  ", 2, 7);
        faulty("plain 1", 2, 7);
        faulty("plain 1 2", 2, 9);
        faulty("plain 1 2 ", 2, 10);
        faulty("signs", 2, 5);
        faulty("signs ", 2, 6);
        faulty("signs 1", 2, 7);
        faulty("signs 1 2 ", 2, 10);
        faulty("every", 2, 5);
        faulty("every 1", 2, 7);
        faulty("every 1   ", 2, 10);
        faulty(SIXTEEN, 2, 37);
        faulty("signs 1;plain 1", 2, 15);
        faulty("signs 1" + " ".repeat(153), 2, 160);
    }

    private static void outOfBounds() {
        CHECK.says(TERMS, "3 a NUMBER out of its bounds.");
        faulty("plain 4 0;", 3, 6);
        faulty("quick 99 0;", 3, 6);
        faulty("heavy 0 8;", 3, 8);
        faulty("stiff 3  10;", 3, 9);
        faulty("signs 4;", 3, 6);
        faulty("signs 10;", 3, 6);
        faulty("every 0;", 3, 6);
        faulty("every 00;", 3, 6);
        faulty("every 10;", 3, 6);
        faulty("every 99;", 3, 6);
    }

    private static void secondTime() {
        CHECK.says(TERMS, "4 signs, every for the second time (its NAME).");
        faulty("signs 1;signs 1;", 4, 8);
        faulty("signs 1; every 2; signs", 4, 18);
        faulty("signs 0;signs 0;", 4, 8);
        faulty("every 1;every 1;", 4, 8);
        faulty("every 2; signs 2; plain 1 1; every", 4, 29);
        CoilWheels x = CHECK.told("signs 1;every 1;");
        CHECK.due("text() told anew", Check.tell(x, "signs 1;every 1;"), 2);
    }

    private static void fifthRotor() {
        CHECK.says(TERMS, "5 the 5th ROTOR (its NAME);");
        taken(FOUR, 4);
        for (String name : KINDS) {
            faulty(FOUR + name, 5, 40);
            faulty(FOUR + " " + name + " 0 0;", 5, 41);
            taken((name + " 0 0;").repeat(4), 4);
            faulty((name + " 0 0;").repeat(5), 5, 40);
        }
        faulty(FOUR + "every 2;signs 1; plain", 5, 57);
        CoilWheels x = CHECK.told(FOUR);
        CHECK.due("text() told anew", Check.tell(x, FOUR), 4);
    }

    private static void seventeenthSign() {
        CHECK.says(TERMS, "a 17th SIGN (its NUMBER, whether it is one or not).");
        taken(SIXTEEN + ";", 1);
        for (String number : new String[] {"0", "3", "4", "9", "10", "99", "00"}) {
            faulty(SIXTEEN + " " + number + ";", 5, 38);
            faulty(SIXTEEN + "   " + number, 5, 40);
        }
        CoilWheels x = CHECK.told(SIXTEEN + ";");
        CHECK.due("text() told anew", Check.tell(x, SIXTEEN + ";"), 1);
    }

    private static void textTellsAll() {
        CHECK.says(TERMS, "A text that is taken tells all, in place of what there was; nothing is SEEN; IMAGES are gone.");
        CoilWheels x = richObject();
        CHECK.due("text()", Check.tell(x, "heavy 2 6;"), 1);
        // OFF 2 (-6 and a turn), LOST -1.
        CHECK.row("told anew: rule(?)", x::rule, 1, 0, 0, 1, 100000, 0, 1);
        CHECK.row("told anew: rotor(0, ?)", at(x, 0), 2, 2, 100006, 10, 12, 99999);
        CHECK.row("told anew: count(?)", x::count, 0, 0, 0, 3, 2, 0);
        CHECK.due("told anew: starts(0)", x.starts(0), 255);
        CHECK.due("told anew: rotor(1, 0)", x.rotor(1, 0), Check.BAD);
        CHECK.due("told anew: back(0)", x.back(0), Check.STATE);
        CHECK.due("told anew: back(1)", x.back(1), Check.STATE);
        CHECK.due("told anew: keep(0)", x.keep(0), 0);
        CHECK.due("told anew: the sheet stays", x.lay(0, 2, 0), 1);
        CoilWheels empty = richObject();
        CHECK.due("text() of nothing", empty.text(), 0);
        CHECK.row("told nothing: rule(?)", empty::rule, 0, 0, 0, 1, 100000, 0, 0);
        CHECK.row("told nothing: count(?)", empty::count, 0, 0, 0, 3, 0, 0);
        CHECK.due("told nothing: back(0)", empty.back(0), Check.STATE);
        CoilWheels rows = richObject();
        CHECK.due("text() of signs alone", Check.tell(rows, "signs 2;every 3;"), 2);
        CHECK.row("told signs: rule(?)", rows::rule, 0, 1, 0, 3, 100000, 0, 0);
        CHECK.row("told signs: sign(?)", rows::sign, 2, Check.BAD);
    }

    private static CoilWheels richObject() {
        CoilWheels x = CHECK.run("stiff 3 5;plain 1 1;signs 1 1 1;every 2;", 3);
        x.see(1, 0, 5);
        x.keep(0);
        x.keep(1);
        x.sheet(0, 0, 3);
        return x;
    }

    private static void textEmptiesTheTape() {
        CHECK.says(4, "THE TAPE (empty then) tells all: how many lines;");
        taken("", 0);
        taken("every 1;", 1);
        taken(FOUR + SIXTEEN + ";every 9;", 6);
        CoilWheels x = new CoilWheels();
        Check.feed(x, "every 2");
        CHECK.due("text() with a fault", x.text(), -17);
        CHECK.due("count(2): empty then, too", x.count(2), 0);
        CHECK.due("feed(';')", x.feed(';'), 1);
        CHECK.due("text(): nothing of it is left", x.text(), -10);
    }

    private static void faultLeavesWhatWasTold() {
        CHECK.says(4, "-10 less the place of its FAULT: that which was told stays.");
        CoilWheels x = CHECK.run("stiff 3 5;signs 1 2 0;every 4;", 7);
        x.see(1, 0, 5);
        x.keep(1);
        Check.feed(x, "plain 1 2;signs 3;every 1;quick 5 5;");
        CHECK.due("text() with a fault", x.text(), -42);
        CHECK.due("fault()", x.fault(), 3);
        // OFF 4 slips while the FIELD is at 1; back at 0, OFF 3 sets it going, and it moves twice.
        CHECK.row("rotor(0, ?)", at(x, 0), 3, 3, 100007, 10 + 1);
        CHECK.row("rule(?)", x::rule, 1, 3, 7, 4, 100000);
        CHECK.row("sign(?)", x::sign, 1, 2, 0, Check.BAD);
        CHECK.row("count(?)", x::count, 1, 1, 0);
        CHECK.due("back(1): the image stays", x.back(1), 7);
        CHECK.due("back(0): there is none", x.back(0), Check.STATE);
        // Each place that a FAULT can be at, the first and the last.
        faulty("!", 1, 0);
        faulty("every 1" + " ".repeat(153), 2, 160);
    }

    private static void faultOfTheLatest() {
        CHECK.says(5, "The FAULT of the latest text(); 0.");
        CoilWheels x = new CoilWheels();
        CHECK.due("fault() of none", x.fault(), 0);
        String[] texts = {"!", ";", "every 0;", "every 1;every 1;", SIXTEEN + " 1;"};
        for (int why = 1; why <= 5; why++) {
            Check.tell(x, texts[why - 1]);
            CHECK.due("fault() of " + texts[why - 1], x.fault(), why);
            x.runs(5, 0);
            x.feed(-1);
            x.feed('x');
            x.end(0);
            x.keep(0);
            x.back(0);
            CHECK.due("fault() stays", x.fault(), why);
            CHECK.due("text() without one", Check.tell(x, "every 1;"), 1);
            CHECK.due("fault() then", x.fault(), 0);
        }
        Check.tell(x, "!");
        CHECK.due("text() of nothing", x.text(), 0);
        CHECK.due("fault() of nothing", x.fault(), 0);
    }

    private static void rule() {
        CHECK.says(6, "0 ROTORS, 1 SIGNS, 2 TICK, 3 EVERY, 4 100000 more than FIELD, 5 who SLIPS now (bits), 6 ALL LOST.", "BAD.");
        CHECK.bounds("new: rule(?)", 0, 6, what -> new CoilWheels().rule(what));
        CoilWheels x = CHECK.run("plain 0 0;quick 1 1;heavy 2 4;signs 2 2;every 3;", 8);
        // FIELD is -3 since TICK 6: the first and the second slipped all along, OFF -3 and 4, LOST 0 and -1;
        // the heavy one came to 6 and, by FIELD -3, back to 5, LOST -1.
        CHECK.row("rule(?)", x::rule, 3, 2, 8, 3, 99997, 3, 2);
        CHECK.bounds("rule(?)", 0, 6, x::rule);
        CHECK.due("rule(2) at its last", last().rule(2), 9999);
        CHECK.due("rule(4) at its last", last().rule(4), 100000 - 9999);
        CHECK.due("rule(6) at its last", last().rule(6), 1250);
    }

    /** TICK and FIELD are as far as they go; place 0 is 9999 places on. */
    private static CoilWheels last() {
        CoilWheels x = CHECK.told("plain 0 0;signs 2;");
        Check.runTo(x, 9999);
        return x;
    }

    private static void rotor() {
        CHECK.says(7, "Of a ROTOR: 0 KIND, 1 GRIP, 2 100000 more than its place, 3 10 more than its WAY, 4 10 more than OFF, "
            + "5 100000 more than LOST.", "BAD.");
        // OFF 0, -1, 4 (not -4), 3 (-5 and a turn): LOST 0, 0, -1, -1.
        CoilWheels x = CHECK.told("plain 0 0;quick 1 1;heavy 2 4;stiff 3 5;");
        CHECK.row("rotor(0, ?)", at(x, 0), 0, 0, 100000, 10, 10, 100000, Check.BAD);
        CHECK.row("rotor(1, ?)", at(x, 1), 1, 1, 100001, 10, 9, 100000, Check.BAD);
        CHECK.row("rotor(2, ?)", at(x, 2), 2, 2, 100004, 10, 14, 99999, Check.BAD);
        CHECK.row("rotor(3, ?)", at(x, 3), 3, 3, 100005, 10, 13, 99999, Check.BAD);
        CHECK.bounds("rotor(?, 0) of four", 0, 3, r -> x.rotor(r, 0));
        CHECK.bounds("rotor(0, ?)", 0, 5, at(x, 0));
        CoilWheels one = CHECK.told("plain 0 0;");
        CHECK.bounds("rotor(?, 0) of one", 0, 0, r -> one.rotor(r, 0));
        CHECK.takesNone("rotor(?, 0) of none", r -> new CoilWheels().rotor(r, 0));
        // Below nothing: FIELD -1, place -1, WAY -1; then FIELD -11, OFF -3, LOST -1.
        CoilWheels below = CHECK.run("plain 1 0;signs 2;", 1);
        CHECK.row("below: rotor(0, ?)", at(below, 0), 0, 1, 99999, 9, 10, 100000);
        below.alter(0, 1, 0);
        below.ticks(10);
        CHECK.row("far below: rotor(0, ?)", at(below, 0), 0, 0, 99999, 10, 8, 99999);
    }

    private static void sign() {
        CHECK.says(8, "A SIGN.", "BAD.");
        CoilWheels x = CHECK.told("signs 3 2 1 0;");
        CHECK.row("sign(?)", x::sign, 3, 2, 1, 0, Check.BAD);
        CHECK.bounds("sign(?)", 0, 3, x::sign);
        CHECK.bounds("sign(?) of sixteen", 0, 15, CHECK.told(SIXTEEN + ";")::sign);
        CHECK.takesNone("sign(?) of none", new CoilWheels()::sign);
        x.cut(2);
        CHECK.bounds("sign(?) of those that were not cut", 0, 1, x::sign);
    }

    private static IntToLongFunction at(CoilWheels x, int r) {
        return what -> x.rotor(r, what);
    }

    private static void taken(String text, int lines) {
        CoilWheels x = new CoilWheels();
        CHECK.due("text() of '" + text + "'", Check.tell(x, text), lines);
        CHECK.due("fault() of '" + text + "'", x.fault(), 0);
        CHECK.due("count(2) behind '" + text + "'", x.count(2), 0);
    }

    private static void faulty(String text, int fault, int place) {
        CoilWheels x = new CoilWheels();
        CHECK.due("text() of '" + text + "'", Check.tell(x, text), -10 - place);
        CHECK.due("fault() of '" + text + "'", x.fault(), fault);
        CHECK.due("count(2) behind '" + text + "'", x.count(2), 0);
        CHECK.due("rule(0) behind '" + text + "'", x.rule(0), 0);
        CHECK.due("rule(1) behind '" + text + "'", x.rule(1), 0);
    }
}
