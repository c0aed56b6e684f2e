import java.util.function.IntToLongFunction;

/** What the tests share: wrong answers are printed and counted, and end the test with exit code 1. */
final class Check {
    static final int BAD = CoilWheels.BAD, STATE = CoilWheels.STATE, FULL = CoilWheels.FULL, NONE = CoilWheels.NONE;
    static final int[] EXTREMES = {Integer.MIN_VALUE, -1, Integer.MAX_VALUE};
    /** In says(): the section "Terms" of the document, which has no number. */
    static final int TERMS = 0;

    private int wrong;
    private String said = "";
    private String printed = "";

    /**
     * The sentences of the document that the answers below are held to, by the number of their promise.
     * SentencesTest looks that they stand there, and that none of the document is left out.
     */
    void says(int promise, String... sentences) {
        said = (promise == TERMS ? "Terms: " : "Promise " + promise + ": ") + String.join(" .. ", sentences);
    }

    void due(String call, long got, long want) {
        if (got != want) {
            report(call + " answered " + got + ", due is " + want);
        }
    }

    /** One answer for each of what 0, 1, 2 .. */
    void row(String call, IntToLongFunction ask, long... want) {
        for (int what = 0; what < want.length; what++) {
            due(filled(call, what), ask.applyAsLong(what), want[what]);
        }
    }

    /** The call, its number in place of ?, takes least and most, and nothing beyond them. */
    void bounds(String call, int least, int most, IntToLongFunction ask) {
        for (int v : new int[] {least, most}) {
            if (ask.applyAsLong(v) == BAD) {
                report(filled(call, v) + " is BAD, but is to be taken");
            }
        }
        for (int v : new int[] {least - 1, most + 1, Integer.MIN_VALUE, Integer.MAX_VALUE}) {
            due(filled(call, v), ask.applyAsLong(v), BAD);
        }
    }

    /** There is nothing that the call, its number in place of ?, could take. */
    void takesNone(String call, IntToLongFunction ask) {
        for (int v : new int[] {0, 1, -1, 40, Integer.MIN_VALUE, Integer.MAX_VALUE}) {
            due(filled(call, v), ask.applyAsLong(v), BAD);
        }
    }

    private static String filled(String call, int v) {
        return call.replace("?", Integer.toString(v));
    }

    private void report(String what) {
        wrong++;
        if (!said.equals(printed)) {
            System.out.println(said);
            printed = said;
        }
        System.out.println("  " + what);
    }

    void finish() {
        System.out.println(wrong == 0 ? "all answers are as due" : wrong + " answers are not as due");
        if (wrong != 0) {
            System.exit(1);
        }
    }

    static void feed(CoilWheels x, String text) {
        for (int i = 0; i < text.length(); i++) {
            x.feed(text.charAt(i));
        }
    }

    static int tell(CoilWheels x, String text) {
        feed(x, text);
        return x.text();
    }

    /** A new object that was told a text without faults. */
    CoilWheels told(String text) {
        CoilWheels x = new CoilWheels();
        int lines = (int) text.chars().filter(c -> c == ';').count();
        due("text() of " + text, tell(x, text), lines);
        return x;
    }

    /** As told(), n TICKS on. */
    CoilWheels run(String text, int n) {
        CoilWheels x = told(text);
        x.ticks(n);
        return x;
    }

    /** TICKS until TICK is so many, a hundred at once at most. */
    static void runTo(CoilWheels x, int tick) {
        for (int left = tick - x.rule(2); left > 0; left -= 100) {
            x.ticks(Math.min(100, left));
        }
    }

    /** A call of CoilWheels, or of the model of it, by its name. */
    static long answer(Object target, String name, int... args) {
        Class<?>[] types = new Class<?>[args.length];
        Object[] values = new Object[args.length];
        for (int i = 0; i < args.length; i++) {
            types[i] = int.class;
            values[i] = args[i];
        }
        try {
            return ((Number) target.getClass().getDeclaredMethod(name, types).invoke(target, values)).longValue();
        } catch (ReflectiveOperationException e) {
            throw new IllegalStateException(written(name, args), e);
        }
    }

    /** A call as it is written. */
    static String written(String name, int... args) {
        StringBuilder told = new StringBuilder(name).append('(');
        for (int i = 0; i < args.length; i++) {
            told.append(i == 0 ? "" : ", ").append(args[i]);
        }
        return told.append(')').toString();
    }

    /** All that can be asked of the state without changing it, for a look at what stays. */
    static String stateOf(CoilWheels x) {
        return stateButFault(x) + " " + x.fault();
    }

    static String stateButFault(CoilWheels x) {
        StringBuilder all = new StringBuilder();
        for (int what = 0; what <= 6; what++) {
            all.append(x.rule(what)).append(' ');
        }
        for (int r = 0; r < 4; r++) {
            for (int what = 0; what <= 5; what++) {
                all.append(x.rotor(r, what)).append(' ');
            }
            all.append(x.kinds(r)).append(' ').append(x.grips(r)).append(' ').append(x.starts(r)).append(' ');
        }
        for (int i = 0; i < 16; i++) {
            all.append(x.sign(i)).append(' ');
        }
        for (int what = 0; what <= 5; what++) {
            all.append(x.count(what)).append(' ');
        }
        return all.append(x.torn()).toString();
    }

    void stays(String call, String before, CoilWheels x) {
        same(call + " changed", stateOf(x), before);
    }

    void same(String what, String got, String want) {
        if (!got.equals(want)) {
            report(what + ":\n    got " + got + "\n    due " + want);
        }
    }
}
