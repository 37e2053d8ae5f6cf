import java.io.IOException;
import java.lang.reflect.InvocationTargetException;
import java.lang.reflect.Method;
import java.nio.charset.StandardCharsets;
import java.nio.file.Files;
import java.nio.file.Path;
import java.util.ArrayList;
import java.util.Arrays;
import java.util.Comparator;
import java.util.List;

/**
 * Every sentence of the document that names a boundary case has a test of its own, in PartEdges (parts
 * 0 to 2), RuleEdges (3), WayEdges (4, 5) and PromiseEdges. Each test's name tells the promise (or the
 * part), and its Sentence the words, which have to stand there in DOC.md. With the argument 'open' those
 * words are printed that no test has.
 */
public final class EdgeTest {
    private static final Path DOC = Path.of("../shared/DOC.md");
    private static final int PROMISES = 46;
    private static final int PARTS = 5;
    private static int wrong = 0;
    private static String test = "";

    static void check(long got, long want, String what) {
        if (got != want) fail(what + " answered " + got + ", due is " + want);
    }

    static void fail(String why) {
        wrong++;
        System.out.println(test + ": " + why);
    }

    public static void main(String[] args) throws Exception {
        List<Method> tests = tests();
        for (Method m : tests) play(m);
        if (Files.exists(DOC)) {
            lookUp(tests, args.length > 0 && args[0].equals("open"));
        } else {
            System.out.println("no " + DOC + ", so that no sentence was looked up there");
        }
        System.out.println(wrong == 0 ? tests.size() + " sentences hold" : wrong + " answers are not as due");
        if (wrong != 0) System.exit(1);
    }

    /** Every test's sentence stands where its name tells, and every promise and part has a test. */
    private static void lookUp(List<Method> tests, boolean printOpen) throws IOException {
        String[] sections = sections(new String(Files.readAllBytes(DOC), StandardCharsets.UTF_8));
        boolean[][] had = new boolean[sections.length][];
        for (int i = 0; i < sections.length; i++) had[i] = new boolean[sections[i].length()];
        for (Method m : tests) {
            test = m.getName();
            String sentence = m.getAnnotation(Sentence.class).value();
            int section = sectionOf(test);
            int at = section < 0 ? -1 : sections[section].indexOf(sentence);
            if (at < 0) {
                fail("'" + sentence + "' doesn't stand there");
            } else {
                Arrays.fill(had[section], at, at + sentence.length(), true);
            }
        }
        for (int i = 0; i < sections.length; i++) {
            test = nameOf(i);
            boolean any = false;
            for (boolean h : had[i]) any |= h;
            if (!any) fail("has no test");
            if (printOpen) printOpen(sections[i], had[i]);
        }
    }

    private static void play(Method m) throws IllegalAccessException {
        test = m.getName();
        try {
            m.invoke(null);
        } catch (InvocationTargetException e) {
            fail(String.valueOf(e.getCause()));
        }
    }

    private static List<Method> tests() {
        List<Method> all = new ArrayList<>();
        for (Class<?> c : new Class<?>[] {PartEdges.class, RuleEdges.class, PromiseEdges.class, WayEdges.class})
            for (Method m : c.getDeclaredMethods()) if (m.isAnnotationPresent(Sentence.class)) all.add(m);
        all.sort(Comparator.comparing(Method::getName));
        return all;
    }

    /** Sections 0 .. 5 are what stands ahead of the terms, and the parts; then the promises. */
    private static int sectionOf(String name) {
        if (name.matches("part[0-5]_.*")) return name.charAt(4) - '0';
        if (name.matches("p[0-9][0-9]_.*")) return PARTS + Integer.parseInt(name.substring(1, 3));
        return -1;
    }

    private static String nameOf(int section) {
        return section <= PARTS ? "part " + section : "promise " + (section - PARTS);
    }

    private static String[] sections(String doc) {
        String[] sections = new String[PARTS + PROMISES + 1];
        sections[0] = between(doc, "## What it is", "## The public face");
        String terms = between(doc, "## Terms", "## Promise 1:");
        for (int part = 1; part <= PARTS; part++) {
            String from = part == 1 ? "" : "==== " + part + " ";
            sections[part] = between(terms, from, part == PARTS ? "" : "==== " + (part + 1) + " ");
        }
        for (int p = 1; p <= PROMISES; p++) {
            String to = p == PROMISES ? "## Not promised" : "## Promise " + (p + 1) + ":";
            sections[PARTS + p] = between(doc, "## Promise " + p + ":", to);
        }
        return sections;
    }

    private static String between(String text, String from, String to) {
        int begin = text.indexOf(from);
        int end = to.isEmpty() ? text.length() : text.indexOf(to, begin);
        if (begin < 0 || end < 0) throw new IllegalStateException("no '" + from + "' .. '" + to + "' in the document");
        return text.substring(begin + from.length(), end);
    }

    private static void printOpen(String section, boolean[] had) {
        StringBuilder open = new StringBuilder();
        for (int i = 0; i < had.length; i++) {
            if (!had[i]) open.append(section.charAt(i));
            else if (i > 0 && !had[i - 1]) open.append(" ## ");
        }
        System.out.println(test + " open: " + open.toString().replaceAll("\\s+", " "));
    }
}
