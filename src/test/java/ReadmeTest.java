import java.lang.reflect.Method;
import java.nio.file.Files;
import java.nio.file.Path;
import java.util.regex.Matcher;
import java.util.regex.Pattern;

/** Plays the calls that README.md shows, and looks whether each answers what README.md says. Runs from the project's root. */
public final class ReadmeTest {
    private static final Pattern CALL = Pattern.compile("x\\.(\\w+)\\(([^)]*)\\); +// (-?\\d+)(:.*)?");

    public static void main(String[] args) throws Exception {
        WindBoat boat = new WindBoat();
        int calls = 0;
        int wrong = 0;
        for (String line : Files.readAllLines(Path.of("README.md"))) {
            Matcher call = CALL.matcher(line);
            if (line.startsWith("x.") && !call.matches()) {
                wrong++;
                System.out.println("without an answer: " + line);
            } else if (line.startsWith("x.")) {
                calls++;
                long got = answer(boat, call.group(1), call.group(2));
                if (got != Long.parseLong(call.group(3))) {
                    wrong++;
                    System.out.println("answered " + got + ": " + line);
                }
            }
        }
        System.out.println(calls + " calls of README.md, " + wrong + " of them wrong");
        if (wrong != 0 || calls == 0) System.exit(1);
    }

    private static long answer(WindBoat boat, String name, String numbers) throws Exception {
        String[] parts = numbers.isEmpty() ? new String[0] : numbers.split(", ");
        Object[] values = new Object[parts.length];
        for (int i = 0; i < parts.length; i++) values[i] = Integer.decode(parts[i]);
        for (Method method : WindBoat.class.getMethods()) {
            if (method.getName().equals(name)) return ((Number) method.invoke(boat, values)).longValue();
        }
        throw new IllegalStateException("no such call: " + name);
    }
}
