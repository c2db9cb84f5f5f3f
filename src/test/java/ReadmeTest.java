import java.io.IOException;
import java.lang.reflect.Method;
import java.lang.reflect.Modifier;
import java.nio.file.Files;
import java.nio.file.Path;
import java.util.List;
import java.util.Set;
import java.util.TreeSet;
import java.util.regex.Matcher;
import java.util.regex.Pattern;

/** The example in README.md: every line of it answers as it says, and every method is shown. */
public final class ReadmeTest {
    private static final Pattern MADE = Pattern.compile("TourBounds x = new TourBounds\\((-?\\d+)\\); +// .+");
    private static final Pattern CALLED =
            Pattern.compile("x\\.(\\w+)\\(([^()]*)\\); +// (-?\\d+)(: .+)?");

    private static final Set<String> shown = new TreeSet<>();
    private static int wrong = 0;

    public static void main(String[] args) throws IOException, ReflectiveOperationException {
        play(Files.readAllLines(Path.of("README.md")));
        for (Method m : TourBounds.class.getDeclaredMethods()) {
            if (Modifier.isPublic(m.getModifiers()) && !shown.contains(m.getName())) {
                fault("the example does not show " + m.getName());
            }
        }
        System.out.println(wrong == 0 ? "the example answers as it says" : wrong + " faults in the example");
        if (wrong != 0) {
            System.exit(1);
        }
    }

    private static void fault(String what) {
        wrong++;
        System.out.println(what);
    }

    private static void play(List<String> lines) throws ReflectiveOperationException {
        TourBounds x = null;
        boolean inside = false;
        for (String line : lines) {
            Matcher made = MADE.matcher(line);
            if (line.startsWith("```")) {
                inside = line.equals("```java");
            } else if (inside && made.matches()) {
                x = new TourBounds(Integer.parseInt(made.group(1)));
            } else if (inside) {
                playLine(x, line);
            }
        }
    }

    private static void playLine(TourBounds x, String line) throws ReflectiveOperationException {
        Matcher called = CALLED.matcher(line);
        // A line that cannot be played would tell an answer that nobody has looked at.
        if (x == null || !called.matches()) {
            fault("cannot be played: " + line);
            return;
        }
        String[] words = called.group(2).isEmpty() ? new String[0] : called.group(2).split(", ");
        Class<?>[] types = new Class<?>[words.length];
        Object[] values = new Object[words.length];
        for (int i = 0; i < words.length; i++) {
            types[i] = int.class;
            values[i] = value(words[i]);
        }
        Object got = TourBounds.class.getMethod(called.group(1), types).invoke(x, values);
        shown.add(called.group(1));
        if (!got.equals(Integer.valueOf(called.group(3)))) {
            fault("answered " + got + ": " + line);
        }
    }

    private static int value(String word) throws ReflectiveOperationException {
        String constants = "TourBounds.";
        return word.startsWith(constants)
                ? TourBounds.class.getField(word.substring(constants.length())).getInt(null)
                : Integer.parseInt(word);
    }
}
