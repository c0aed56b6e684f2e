import java.lang.reflect.Method;
import java.lang.reflect.Modifier;
import java.util.Random;

/** Every call of the face by the thousand, answered by the class as by the model. */
public final class RandomRunsTest {
    private static final int RUNS = 1500;
    private static final int CALLS = 120;
    private static final Check CHECK = new Check();

    /** What a call's arguments are drawn from, least and most of each; a little more is drawn, too. */
    private static final String[] RANGES = {
        "feed 0 127", "end 0 160", "text", "fault", "rule 0 6", "rotor 0 3 0 5", "sign 0 15",
        "alter 0 3 0 1 0 3", "turn 0 3 0 16", "set 0 15 0 3", "every 1 9", "add 0 3", "cut 0 16",
        "ticks 0 100", "runs 0 200 0 3", "ahead 0 3 0 200 0 1", "when 0 3",
        "slow 0 3 0 200", "need 0 3 0 200", "kind 0 3 0 200 0 1", "swap 0 200 0 1", "ease 0 200 0 1",
        "begin 0 3 0 200 0 1", "luck 0 10 0 3 0 8 0 1", "mean 0 10 0 8 0 1",
        "see 0 40 0 3 0 7", "forget 0 6", "kinds 0 3", "grips 0 3", "starts 0 3", "ask 0 3 0 1",
        "drift -2147483648 2147483647 1 200 0 1", "keep 0 1", "back 0 1",
        "sheet 0 3 0 2 -1 40", "lay 0 3 0 12 -2 5", "read 0 3 0 2 0 10 0 6", "torn", "count 0 5"
    };

    private final Random random;
    private final CoilWheels wheels = new CoilWheels();
    private final Model model = new Model();
    private final StringBuilder calls = new StringBuilder();
    private boolean same = true;

    private RandomRunsTest(long seed) {
        random = new Random(seed);
    }

    public static void main(String[] args) {
        allCallsAreDrawn();
        for (int run = 0; run < RUNS; run++) {
            new RandomRunsTest(run).run();
        }
        CHECK.finish();
    }

    private static void allCallsAreDrawn() {
        int calls = 0;
        for (Method m : CoilWheels.class.getDeclaredMethods()) {
            calls += Modifier.isPublic(m.getModifiers()) ? 1 : 0;
        }
        CHECK.due("how many calls are drawn", RANGES.length, calls);
    }

    private void run() {
        tell();
        for (int i = 0; i < CALLS && same; i++) {
            int dice = random.nextInt(100);
            if (dice < 2) {
                tell();
            } else if (dice < 7) {
                lookOn();
            } else if (dice < 10) {
                laySheet();
            } else {
                String[] range = RANGES[random.nextInt(RANGES.length)].split(" ");
                if (!range[0].equals("text") || random.nextInt(4) == 0) {
                    call(range[0], drawn(range));
                }
            }
        }
    }

    private int[] drawn(String[] range) {
        int[] args = new int[range.length / 2];
        for (int i = 0; i < args.length; i++) {
            long least = Long.parseLong(range[2 * i + 1]);
            long most = Long.parseLong(range[2 * i + 2]);
            boolean beyond = random.nextInt(25) == 0;
            int[] wild = {(int) least - 1, (int) most + 1, Integer.MIN_VALUE, Integer.MAX_VALUE};
            args[i] = beyond ? wild[random.nextInt(4)] : (int) (least + (long) (random.nextDouble() * (most - least + 1)));
        }
        return args;
    }

    /** A text, now and then with a fault, so that there is something to run. */
    private void tell() {
        StringBuilder text = new StringBuilder();
        String[] names = {"plain", "quick", "heavy", "stiff"};
        int rotors = 1 + random.nextInt(4);
        for (int i = 0; i < rotors; i++) {
            text.append(names[random.nextInt(4)]).append(blanks(1)).append(random.nextInt(4));
            text.append(blanks(1)).append(random.nextInt(8)).append(blanks(0)).append(';');
        }
        text.append("signs");
        int signs = 1 + random.nextInt(random.nextBoolean() ? 4 : 16);
        for (int i = 0; i < signs; i++) {
            text.append(blanks(1)).append(random.nextInt(4));
        }
        text.append(';');
        if (random.nextBoolean()) {
            text.append("every ").append(1 + random.nextInt(random.nextBoolean() ? 3 : 9)).append(';');
        }
        spoil(text);
        call("end", 0);
        for (int i = 0; i < text.length() && i < 170; i++) {
            call("feed", text.charAt(i));
        }
        call("text");
        call("fault");
    }

    private String blanks(int least) {
        return " ".repeat(least + (random.nextInt(10) == 0 ? random.nextInt(3) : 0));
    }

    private void spoil(StringBuilder text) {
        String other = "0123456789 ;;aeinqvz!";
        for (int faults = random.nextInt(5) - 2; faults > 0; faults--) {
            int at = random.nextInt(text.length());
            char c = other.charAt(random.nextInt(other.length()));
            switch (random.nextInt(4)) {
                case 0 -> text.setCharAt(at, c);
                case 1 -> text.insert(at, c);
                case 2 -> text.deleteCharAt(at);
                default -> text.append(text.substring(at));
            }
        }
    }

    /** What will be is SEEN, so that it is not always nothing that fits. */
    private void lookOn() {
        int r = random.nextInt(4);
        int n = random.nextInt(random.nextBoolean() ? 5 : 41);
        int at = model.ahead(r, n, 0);
        if (at >= 0) {
            call("see", n, r, Math.floorMod(at - 100000, 8));
            call("kinds", r);
            call("grips", r);
            call("starts", r);
            call("ask", r, random.nextInt(2));
        }
    }

    private void laySheet() {
        int k = random.nextInt(4);
        int lane = random.nextInt(3);
        int n = random.nextInt(9);
        call("sheet", k, lane, n);
        int signs = Math.max(1, model.rule(1));
        for (int i = 0; i < n; i++) {
            call("lay", k, i, i % 2 == 0 ? random.nextInt(signs) : random.nextInt(4));
        }
        if (random.nextBoolean()) {
            call("lay", k, random.nextInt(9), (random.nextInt(5) - 1) * (random.nextBoolean() ? 1 : 257));
        }
        call("read", k, random.nextInt(8) == 0 ? random.nextInt(3) : lane, random.nextInt(3) * 2, random.nextInt(5));
        call("torn");
        call("count", 5);
    }

    private void call(String name, int... args) {
        if (!same) {
            return;
        }
        String call = Check.written(name, args);
        long got = Check.answer(wheels, name, args);
        long want = Check.answer(model, name, args);
        calls.append(call).append(' ');
        if (got != want) {
            same = false;
            System.out.println("behind " + calls);
        }
        CHECK.due(call, got, want);
    }
}
