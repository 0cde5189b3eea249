import java.lang.reflect.Constructor;
import java.lang.reflect.Field;
import java.lang.reflect.Method;
import java.lang.reflect.Modifier;
import java.nio.file.Files;
import java.nio.file.Path;
import java.util.List;
import java.util.Set;
import java.util.TreeSet;
import java.util.regex.Matcher;
import java.util.regex.Pattern;

/** The rules of LANGUAGE.md that can be looked for: the face, and what may not stand in the file. */
public final class LanguageTest {
    private static final String FACE = "feed(int,int,int,int,int)int end(int)int loop()int fault(int)int fire(int,int)int "
            + "onto(int,int)int workers(int)int broken(int,boolean)int undo()boolean redo()boolean value(int,int,int)int "
            + "ordered(int,int)int depth(int,int)int run(int,int,int)int wrong()int tick(int,int)int cell(int,int)int "
            + "point(int,int)int wave(int)int busy(int,int)int plan(int)int offset(int,int)int flow(int,int)int "
            + "best(int,int)int line(int)int pair(int,int)int beats(int,boolean)int fewest(int,boolean)int "
            + "height(int,int)int critical()int wrongAt(int)int peak(int)int tiles(int,int,int)int tiling(int,int)int "
            + "near(int,int,int)int idle(int)int hangs(int,int)int stirs(int,int,int)int stirred(int,int,int)int "
            + "total(int,int)int law()int image(int)int back(int)int about(int)int";
    private static final int METHOD_LINES = 60;
    private static final int CLASSES = 12;
    private static final int FIELDS = 20;
    private static final int PARAMETERS = 7;

    private LanguageTest() {
    }

    public static void main(String[] args) throws Exception {
        Set<String> names = face();
        for (Class<?> c : PulseGrid.class.getDeclaredClasses()) {
            inner(c, names);
        }
        Check.due("rule 11: too many classes", 1 + PulseGrid.class.getDeclaredClasses().length > CLASSES, false);
        text(Files.readAllLines(Path.of("src/main/java/PulseGrid.java")));
        Check.finish("LanguageTest");
    }

    private static Set<String> face() {
        Set<String> got = new TreeSet<>();
        Set<String> names = new TreeSet<>();
        for (Method m : PulseGrid.class.getDeclaredMethods()) {
            if (Modifier.isPublic(m.getModifiers())) {
                StringBuilder types = new StringBuilder();
                for (Class<?> t : m.getParameterTypes()) {
                    types.append(types.length() > 0 ? "," : "").append(t.getName());
                }
                got.add(m.getName() + "(" + types + ")" + m.getReturnType().getName());
                names.add(m.getName());
            }
        }
        Set<String> want = new TreeSet<>(List.of(FACE.split(" ")));
        if (!got.equals(want)) {
            System.out.println("the face is " + got);
        }
        Check.due("rule 1: the face", got.equals(want), true);
        Check.due("rule 1: the class", PulseGrid.class.getModifiers(), Modifier.PUBLIC | Modifier.FINAL);
        for (Method m : PulseGrid.class.getDeclaredMethods()) {
            if (!Modifier.isPublic(m.getModifiers())) {
                method(m, names);
                Check.due("rule 1: private, " + m.getName(), Modifier.isPrivate(m.getModifiers()), true);
            }
        }
        for (Field f : PulseGrid.class.getDeclaredFields()) {
            boolean hidden = Modifier.isPrivate(f.getModifiers()) || f.getName().equals("NONE");
            Check.due("rule 1: private, " + f.getName(), hidden, true);
        }
        fields(PulseGrid.class);
        return names;
    }

    private static void inner(Class<?> c, Set<String> names) {
        Check.due("rule 2: static, " + c.getName(), Modifier.isStatic(c.getModifiers()), true);
        Check.due("rule 1: not public, " + c.getName(), Modifier.isPublic(c.getModifiers()), false);
        fields(c);
        for (Method m : c.getDeclaredMethods()) {
            method(m, names);
        }
        for (Constructor<?> k : c.getDeclaredConstructors()) {
            Check.due("rule 11: parameters, " + c.getName(), k.getParameterCount() > PARAMETERS, false);
        }
    }

    private static void method(Method m, Set<String> names) {
        Check.due("rule 1: named as one of the face, " + m, names.contains(m.getName()), false);
        Check.due("rule 11: parameters, " + m, m.getParameterCount() > PARAMETERS, false);
        Check.due("rule 2: made by javac, " + m, m.isSynthetic(), false);
    }

    private static void fields(Class<?> c) {
        int own = 0;
        for (Field f : c.getDeclaredFields()) {
            if (Modifier.isStatic(f.getModifiers())) {
                Check.due("rule 5: final, " + f, Modifier.isFinal(f.getModifiers()), true);
            } else {
                own++;
            }
        }
        Check.due("rule 11: fields of " + c.getName() + ", " + own, own > FIELDS, false);
    }

    private static void text(List<String> lines) {
        Pattern banned = Pattern.compile("\\b(throw|throws|try|catch|finally|synchronized|assert|protected|Exact|hashCode|"
                + "toString|System|Thread|Random|Object|var|record|yield)\\b|Exact\\(|->|::|@|\\bwhile \\(true\\)|for \\(;;\\)");
        int start = -1;
        for (int k = 0; k < lines.size(); k++) {
            String line = lines.get(k).replaceAll("//.*|^\\s*/?\\*.*", "");
            Matcher m = banned.matcher(line);
            if (m.find()) {
                Check.due("line " + (k + 1) + " has " + m.group(), 1, 0);
            }
            if (line.startsWith("import ")) {
                Check.due("rule 4: " + line, line.equals("import java.util.Arrays;"), true);
            }
            for (int n = 0; n < lines.get(k).length(); n++) {
                char c = lines.get(k).charAt(n);
                Check.due("rule 4: a sign of line " + (k + 1), c >= 32 && c < 127, true);
            }
            if (line.matches("( {4}| {8})\\S.*\\) \\{")) {
                start = k;
            }
            if (start >= 0 && line.matches("( {4}| {8})\\}")) {
                Check.due("rule 11: lines from " + (start + 1), k - start + 1 > METHOD_LINES, false);
                start = -1;
            }
        }
    }
}
