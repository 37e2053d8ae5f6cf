import java.lang.reflect.Constructor;
import java.lang.reflect.Field;
import java.lang.reflect.Method;
import java.lang.reflect.Modifier;
import java.nio.charset.StandardCharsets;
import java.nio.file.Files;
import java.nio.file.Path;
import java.util.ArrayList;
import java.util.List;
import java.util.Set;
import java.util.TreeSet;
import java.util.regex.Matcher;
import java.util.regex.Pattern;

/** The face is that of the document, and the source keeps to those rules of LANGUAGE.md that can be seen from outside. */
public final class LanguageTest {
    private static final String FACE = "int cell(int,int,int) int wind(int,int,int) int blows(int,int,int) int mark(int) "
        + "int speed(int,int,int) int learn(int,int,int) int table(int,int,int) int sail(int) int pace(int,int,int) "
        + "int sailOf(int,int) int taken(int,int) int hand() int sleep(int,int) int feed(int,int) int wipe() int rule(int,int) "
        + "int says(int,int,int) int why(int,int,int) int soonest(int,int,int) int plan(int,int,int) int telling(int,int) "
        + "int choice(int,int) int group(int,int) int comes(int,int) long tree(int,int) long worth() int weight(int) "
        + "int rival(int,int,int) int game() int at(int,int) int stay(int) int go(int) int raise(int) int mend(int) int boat(int) "
        + "int lost(int,int) int count(int) int image() int back() int lay(int) int set(int,int) int tear() int row(int) "
        + "int copy(int,int,int) int status(int)";
    private static final String[] CONSTANTS = {"NONE", "MISSING", "BEYOND", "BELOW", "KIND", "COPY", "NO", "FULL"};
    private static int wrong = 0;

    private static void check(boolean is, String what) {
        if (!is) {
            wrong++;
            System.out.println(what);
        }
    }

    public static void main(String[] args) throws Exception {
        face();
        classes();
        source();
        if (wrong != 0) System.exit(1);
    }

    private static void face() throws Exception {
        Class<?> c = WindBoat.class;
        check(Modifier.isPublic(c.getModifiers()) && Modifier.isFinal(c.getModifiers()), "the class is public and final");
        Set<String> due = new TreeSet<>(), there = new TreeSet<>();
        Matcher m = Pattern.compile("\\w+ \\w+\\([^)]*\\)").matcher(FACE);
        while (m.find()) due.add(m.group());
        Set<String> names = new TreeSet<>();
        for (Method method : c.getDeclaredMethods()) {
            if (Modifier.isPrivate(method.getModifiers())) continue;
            StringBuilder text = new StringBuilder(method.getReturnType().getName()).append(' ').append(method.getName()).append('(');
            for (Class<?> p : method.getParameterTypes()) text.append(text.charAt(text.length() - 1) == '(' ? "" : ",").append(p.getName());
            there.add(text.append(')').toString());
            names.add(method.getName());
            check(Modifier.isPublic(method.getModifiers()) && !Modifier.isStatic(method.getModifiers()), method + " is public");
        }
        check(due.equals(there), "the face is " + there + ", due is " + due);
        for (Constructor<?> k : c.getDeclaredConstructors()) check(Modifier.isPublic(k.getModifiers()) && k.getParameterCount() == 0, k + " is that of the face");
        for (int i = 0; i < CONSTANTS.length; i++) check(c.getField(CONSTANTS[i]).getInt(null) == -1 - i, CONSTANTS[i]);
        check(c.getFields().length == CONSTANTS.length, "no public field but the constants");
        List<Class<?>> all = new ArrayList<>(List.of(c.getDeclaredClasses()));
        all.add(c);
        for (Class<?> one : all)
            for (Method method : one.getDeclaredMethods())
                check(one == c && Modifier.isPublic(method.getModifiers()) || !names.contains(method.getName()), method + " bears a name of the face");
    }

    private static void classes() {
        Class<?>[] inside = WindBoat.class.getDeclaredClasses();
        check(inside.length < 12, "at most twelve classes");
        List<Class<?>> all = new ArrayList<>(List.of(inside));
        for (Class<?> one : inside) check(Modifier.isStatic(one.getModifiers()) && !Modifier.isPublic(one.getModifiers()), one + " is static and not public");
        all.add(WindBoat.class);
        for (Class<?> one : all) {
            int fields = 0;
            for (Field f : one.getDeclaredFields()) {
                int is = f.getModifiers();
                check(one != WindBoat.class || Modifier.isPrivate(is) || Modifier.isPublic(is), f + " is private");
                check(!Modifier.isStatic(is) || Modifier.isFinal(is), f + " is final");
                if (!Modifier.isStatic(is)) fields++;
            }
            check(fields <= 20, one + " has " + fields + " fields");
            for (Method m : one.getDeclaredMethods()) check(m.getParameterCount() <= 7, m + " has too many parameters");
        }
    }

    private static void source() throws Exception {
        String text = new String(Files.readAllBytes(Path.of("src/main/java/WindBoat.java")), StandardCharsets.ISO_8859_1);
        for (int i = 0; i < text.length(); i++) check(text.charAt(i) < 128, "a sign beyond 127 at " + i);
        String code = text.replaceAll("(?s)/\\*.*?\\*/", "").replaceAll("//[^\n]*", "")
            .replaceAll("\"[^\"\n]*\"", "TEXT").replaceAll("'[^'\n]+'", "SIGN");
        String[] never = {"\\bthrow\\b", "\\btry\\b", "\\bcatch\\b", "\\bsynchronized\\b", "\\bassert\\b", "->", "::", "\\bdouble\\b", "\\bfloat\\b",
            "\\bstatic\\s*\\{", "Exact\\s*\\(", "\\bpackage\\b", "\\bObject\\b", "\\bhashCode\\b", "\\btoString\\b", "TEXT\\s*\\+", "\\+\\s*TEXT",
            "System\\.(?!arraycopy)", "Math\\.(?!max|min|abs|floorDiv)", "Integer\\.(?!bitCount)", "Long\\.", "Arrays\\.(?!fill)", "import (?!java\\.util\\.Arrays;)"};
        for (String n : never) {
            Matcher m = Pattern.compile(n).matcher(code);
            if (m.find()) check(false, "the source has " + m.group());
        }
        int since = 0, line = 0;
        for (String l : text.split("\n")) {
            line++;
            if (l.matches(" {4,8}\\S.*\\) \\{")) since = line;
            if (l.matches(" {4}(    )?\\}") && since > 0) {
                check(line - since < 60, "a method of over sixty lines at " + since);
                since = 0;
            }
            check(l.length() <= 130, "a long line: " + line);
        }
    }
}
