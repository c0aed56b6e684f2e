import java.io.IOException;
import java.lang.reflect.Constructor;
import java.lang.reflect.Field;
import java.lang.reflect.Member;
import java.lang.reflect.Method;
import java.lang.reflect.Modifier;
import java.nio.file.Files;
import java.nio.file.Path;
import java.util.Arrays;
import java.util.List;
import java.util.Set;
import java.util.TreeSet;
import java.util.regex.Matcher;
import java.util.regex.Pattern;

/** What of ../shared/LANGUAGE.md can be seen from the class and from its text. Run it in the project's folder. */
public final class LanguageTest {
    private static final Check CHECK = new Check();
    private static final Path SOURCE = Path.of("src/main/java/CoilWheels.java");

    /** The calls of the face, each with the number of its arguments, which are all int. */
    private static final String FACE = "feed1 end1 text0 fault0 rule1 rotor2 sign1 alter3 turn2 set2 every1 add1 cut1"
        + " ticks1 runs2 ahead3 when1 slow2 need2 kind3 swap2 ease2 begin3 luck4 mean3 see3 forget1 kinds1 grips1"
        + " starts1 ask2 drift3 keep1 back1 sheet3 lay3 read4 torn0 count1";

    public static void main(String[] args) throws IOException {
        face();
        nestedClasses();
        String code = withoutComments(Files.readString(SOURCE));
        forbiddenWords(code);
        members(code);
        CHECK.finish();
    }

    private static void face() {
        Class<?> face = CoilWheels.class;
        holds("the class is public and final", isAll(face.getModifiers(), Modifier.PUBLIC | Modifier.FINAL));
        Constructor<?>[] constructors = face.getDeclaredConstructors();
        holds("one public constructor without arguments", constructors.length == 1
            && Modifier.isPublic(constructors[0].getModifiers()) && constructors[0].getParameterCount() == 0);
        Set<String> calls = new TreeSet<>();
        for (Method m : face.getDeclaredMethods()) {
            if (!Modifier.isPrivate(m.getModifiers())) {
                calls.add(m.getName() + m.getParameterCount());
                Class<?> answer = m.getName().equals("luck") || m.getName().equals("mean") ? long.class : int.class;
                holds(m.getName() + " is public", m.getModifiers() == Modifier.PUBLIC);
                holds(m.getName() + " answers " + answer, m.getReturnType() == answer);
                holds(m.getName() + " takes int", List.of(m.getParameterTypes()).stream().allMatch(t -> t == int.class));
            }
        }
        holds("the calls are those of the face", calls.equals(new TreeSet<>(Arrays.asList(FACE.split(" ")))));
        int constants = Modifier.PUBLIC | Modifier.STATIC | Modifier.FINAL;
        Set<String> visible = new TreeSet<>();
        for (Field f : face.getDeclaredFields()) {
            if (!Modifier.isPrivate(f.getModifiers())) {
                visible.add(f.getName());
                holds(f.getName() + " is a public int constant", f.getModifiers() == constants && f.getType() == int.class);
            }
        }
        holds("the constants are those of the face", visible.equals(Set.of("BAD", "STATE", "FULL", "NONE")));
    }

    private static void nestedClasses() {
        Class<?>[] nested = CoilWheels.class.getDeclaredClasses();
        holds("at most twelve classes", nested.length < 12);
        for (Class<?> c : nested) {
            holds(c + " is static", Modifier.isStatic(c.getModifiers()));
            holds(c + " is private or package-visible", (c.getModifiers() & (Modifier.PUBLIC | Modifier.PROTECTED)) == 0);
            fields(c);
            for (Method m : c.getDeclaredMethods()) {
                holds(m + " bears no name of the face", !(" " + FACE).matches(".* " + m.getName() + "[0-9].*"));
            }
        }
        fields(CoilWheels.class);
    }

    private static void fields(Class<?> c) {
        int own = 0;
        for (Field f : c.getDeclaredFields()) {
            own += Modifier.isStatic(f.getModifiers()) ? 0 : 1;
            holds(f + " is final, if static", !isAll(f.getModifiers(), Modifier.STATIC) || isFinal(f));
        }
        holds(c + " has at most twenty fields", own <= 20);
    }

    private static void forbiddenWords(String code) {
        String[] words = {"throw", "throws", "try", "catch", "finally", "synchronized", "assert", "import", "package",
            "protected", "volatile", "transient", "native", "yield", "var", "Object", "Exception", "System.out",
            "hashCode", "toString", "[a-z]\\w*Exact"};
        for (String word : words) {
            holds("no " + word, !Pattern.compile("\\b" + word + "\\b").matcher(code).find());
        }
        for (String mark : new String[] {"->", "::", "@", "\"\"\""}) {
            holds("no " + mark, !code.contains(mark));
        }
        Matcher library = Pattern.compile("\\b(System|Math|Integer|Long|Arrays|String)\\.(\\w+)").matcher(code);
        Set<String> known = Set.of("System.arraycopy", "Math.abs", "Math.max", "Math.floorMod", "Integer.bitCount");
        while (library.find()) {
            holds(library.group() + " is of the library", known.contains(library.group()));
        }
    }

    /** Methods are short, have few parameters, and make nothing: what a run makes is made by constructors. */
    private static void members(String code) {
        Pattern head = Pattern.compile("^ {4}(?: {4})?(?:public |private |static |final )*(?:(\\w+(?:\\[\\])?) )?(\\w+)\\((.*)\\) \\{$");
        String[] lines = code.split("\n", -1);
        Set<String> publics = new TreeSet<>();
        Set<String> others = new TreeSet<>();
        int found = 0;
        for (int i = 0; i < lines.length; i++) {
            Matcher m = head.matcher(lines[i]);
            if (!m.matches() || Set.of("if", "for", "while", "switch").contains(m.group(2))) {
                continue;
            }
            found++;
            String end = lines[i].replaceAll("\\S.*", "") + "}";
            int last = i;
            while (!lines[last].equals(end)) {
                holds(m.group(2) + " makes nothing", m.group(1) == null || !lines[last].matches(".*\\bnew\\b.*"));
                last++;
            }
            holds(m.group(2) + " is short", last - i <= 60);
            holds(m.group(2) + " has few parameters", m.group(3).split(",").length <= 7);
            (lines[i].contains("public ") ? publics : others).add(m.group(2));
        }
        holds("methods are found", found > 70);
        publics.remove("CoilWheels");
        publics.retainAll(others);
        holds("no name of a public method is borne by another: " + publics, publics.isEmpty());
    }

    private static String withoutComments(String text) {
        return text.replaceAll("(?s)/\\*.*?\\*/", "").replaceAll("//[^\n]*", "");
    }

    private static boolean isAll(int modifiers, int wanted) {
        return (modifiers & wanted) == wanted;
    }

    private static boolean isFinal(Member member) {
        return Modifier.isFinal(member.getModifiers());
    }

    private static void holds(String what, boolean is) {
        CHECK.due(what, is ? 1 : 0, 1);
    }
}
