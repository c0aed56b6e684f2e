/** What the tests share: wrong answers are printed and counted, and end the test with exit code 1. */
final class Check {
    static final int BAD = CoilWheels.BAD, STATE = CoilWheels.STATE, FULL = CoilWheels.FULL, NONE = CoilWheels.NONE;
    static final int[] EXTREMES = {Integer.MIN_VALUE, -1, Integer.MAX_VALUE};

    private int wrong;

    void due(String call, long got, long want) {
        if (got != want) {
            wrong++;
            System.out.println(call + " answered " + got + ", due is " + want);
        }
    }

    void finish() {
        System.out.println(wrong == 0 ? "all answers are as due" : wrong + " answers are not as due");
        if (wrong != 0) {
            System.exit(1);
        }
    }

    static void feed(CoilWheels x, String text) {
        for (int i = 0; i < text.length(); i++) {
            x.feed(text.charAt(i));
        }
    }

    static int tell(CoilWheels x, String text) {
        feed(x, text);
        return x.text();
    }

    /** A new object that was told a text without faults. */
    CoilWheels told(String text) {
        CoilWheels x = new CoilWheels();
        int lines = (int) text.chars().filter(c -> c == ';').count();
        due("text() of " + text, tell(x, text), lines);
        return x;
    }

    /** All that can be asked of the state without changing it, for a look at what stays. */
    static String stateOf(CoilWheels x) {
        StringBuilder all = new StringBuilder();
        for (int what = 0; what <= 6; what++) {
            all.append(x.rule(what)).append(' ');
        }
        for (int r = 0; r < 4; r++) {
            for (int what = 0; what <= 5; what++) {
                all.append(x.rotor(r, what)).append(' ');
            }
            all.append(x.kinds(r)).append(' ').append(x.starts(r)).append(' ');
        }
        for (int i = 0; i < 16; i++) {
            all.append(x.sign(i)).append(' ');
        }
        for (int what = 0; what <= 5; what++) {
            all.append(x.count(what)).append(' ');
        }
        return all.append(x.fault()).append(' ').append(x.torn()).toString();
    }

    void stays(String call, String before, CoilWheels x) {
        String after = stateOf(x);
        if (!before.equals(after)) {
            wrong++;
            System.out.println(call + " changed\n  " + before + "\nto\n  " + after);
        }
    }
}
