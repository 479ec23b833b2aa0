import java.io.IOException;
import java.lang.reflect.Constructor;
import java.lang.reflect.Field;
import java.lang.reflect.Member;
import java.lang.reflect.Method;
import java.lang.reflect.Modifier;
import java.nio.file.Files;
import java.nio.file.Path;
import java.util.ArrayList;
import java.util.HashSet;
import java.util.List;
import java.util.Set;
import java.util.TreeSet;
import java.util.regex.Matcher;
import java.util.regex.Pattern;

/** The face that the document tells, and what a look at the file can tell of ../shared/LANGUAGE.md. */
public final class RulesTest {
    private static final Due due = new Due("RulesTest");
    private static final Path FILE = Path.of("src/main/java/OvenHouse.java");
    private static final String[] FACE = {
        "int sheet(int,int,int)", "int lose(int)", "int put(int,int,int,int)", "int get(int,int,int)",
        "int copy(int,int,int,int,int)", "int take(int,int,int)", "int loaf(int,int)", "int of(int,int)",
        "int heat(int,int,int)", "int price(int,int,int)", "int at(int)", "int swap(int,int)", "int rule()",
        "int use()", "int turn()", "int undo()", "int day(int,int)", "int moment(int,int,int,int)",
        "int idle(int,int)", "int bound()", "int least(int,int)", "int second(int,int)",
        "int better(int,int)", "int best(int)", "int rings(int)", "int cost()", "int round()",
        "int through()", "int batches(int)", "int count(int)", "long digest()"};

    public static void main(String[] args) throws IOException {
        face();
        fields(OvenHouse.class);
        int classes = 1;
        for (Class<?> inside : OvenHouse.class.getDeclaredClasses()) {
            classes++;
            inside(inside);
            fields(inside);
        }
        due.holds("rule 11: at most 12 classes", classes <= 12);
        String source = Files.readString(FILE);
        words(source);
        methods(source);
        due.finish();
    }

    private static String signature(Method m) {
        List<String> types = new ArrayList<>();
        for (Class<?> type : m.getParameterTypes()) {
            types.add(type.getName());
        }
        return m.getReturnType().getName() + " " + m.getName() + "(" + String.join(",", types) + ")";
    }

    private static void face() {
        Set<String> told = new TreeSet<>(List.of(FACE));
        Set<String> names = new HashSet<>();
        Set<String> found = new TreeSet<>();
        for (Method m : OvenHouse.class.getDeclaredMethods()) {
            if (Modifier.isPrivate(m.getModifiers())) {
                continue;
            }
            found.add(signature(m));
            names.add(m.getName());
            due.is("rule 1: modifiers of " + m.getName(), m.getModifiers(), Modifier.PUBLIC);
        }
        due.holds("rule 1: the face is " + found, found.equals(told));
        noNamesTwice(OvenHouse.class, names);
        for (Class<?> inside : OvenHouse.class.getDeclaredClasses()) {
            noNamesTwice(inside, names);
        }
        due.is("rule 1: public and final", OvenHouse.class.getModifiers(), Modifier.PUBLIC | Modifier.FINAL);
        Constructor<?>[] made = OvenHouse.class.getDeclaredConstructors();
        due.is("rule 1: one constructor", made.length, 1);
        due.is("rule 1: it is public", made[0].getModifiers(), Modifier.PUBLIC);
        Set<String> constants = new TreeSet<>();
        for (Field f : OvenHouse.class.getDeclaredFields()) {
            if (!Modifier.isPrivate(f.getModifiers())) {
                constants.add(f.getName());
            }
        }
        due.holds("rule 1: constants are " + constants,
                constants.equals(Set.of("NONE", "BAD", "FULL", "SPENT", "NOT")));
    }

    private static void noNamesTwice(Class<?> in, Set<String> names) {
        for (Method m : in.getDeclaredMethods()) {
            boolean twice = in != OvenHouse.class || Modifier.isPrivate(m.getModifiers());
            due.holds("rule 1: name of " + in.getSimpleName() + "." + m.getName(),
                    !twice || !names.contains(m.getName()));
        }
    }

    private static boolean isStatic(Member m) {
        return Modifier.isStatic(m.getModifiers());
    }

    private static void inside(Class<?> c) {
        int m = c.getModifiers();
        due.holds("rule 2: static " + c.getName(), Modifier.isStatic(m));
        due.holds("rule 1: hidden " + c.getName(), !Modifier.isPublic(m) && !Modifier.isProtected(m));
    }

    private static void fields(Class<?> c) {
        int own = 0;
        for (Field f : c.getDeclaredFields()) {
            own += isStatic(f) ? 0 : 1;
            due.holds("rule 5: " + c.getSimpleName() + "." + f.getName() + " is no static state",
                    !isStatic(f) || Modifier.isFinal(f.getModifiers()) && f.getType().isPrimitive());
        }
        due.holds("rule 11: at most 20 fields in " + c.getSimpleName(), own <= 20);
    }

    private static void words(String source) {
        String code = source.replaceAll("(?s)/\\*.*?\\*/", "").replaceAll("//[^\n]*", "");
        String[] banned = {"throw", "throws", "try", "catch", "finally", "synchronized", "assert", "package",
            "hashCode", "toString", "instanceof", "double", "float", "Object", "System\\.(?!arraycopy\\b)\\w+",
            "\\w+Exact", "Thread", "Random", "protected", "volatile", "native", "goto"};
        for (String word : banned) {
            Matcher m = Pattern.compile("\\b" + word + "\\b").matcher(code);
            due.holds("rules 4, 6, 13: no " + word, !m.find());
        }
        due.holds("rule 2: no lambda", !code.contains("->"));
        due.holds("rule 2: no method reference", !code.contains("::"));
        due.holds("rule 10: no texts", !code.contains("\""));
        Matcher imports = Pattern.compile("import ([^;]*);").matcher(code);
        while (imports.find()) {
            due.holds("rule 4: import " + imports.group(1), imports.group(1).equals("java.util.Arrays"));
        }
        due.holds("signs are plain", source.chars().allMatch(c -> c == '\n' || c >= 32 && c < 127));
    }

    private static void methods(String source) {
        String[] lines = source.split("\n");
        int start = -1;
        for (int i = 0; i < lines.length; i++) {
            boolean opens = lines[i].matches(" {4,8}[a-z].*\\) \\{") && !lines[i].contains("class ");
            if (opens && start < 0) {
                start = i;
            }
            if (start >= 0 && lines[i].equals(lines[start].replaceAll("\\S.*", "") + "}")) {
                due.holds("rule 11: short " + lines[start].trim(), i - start < 60);
                due.holds("rule 11: parameters of " + lines[start].trim(),
                        lines[start].chars().filter(c -> c == ',').count() < 7);
                start = -1;
            }
        }
        due.is("every method has an end", start, -1);
    }
}
