import java.io.IOException;
import java.lang.reflect.Constructor;
import java.lang.reflect.Field;
import java.lang.reflect.Method;
import java.lang.reflect.Modifier;
import java.nio.file.Files;
import java.nio.file.Path;
import java.util.Arrays;
import java.util.Set;
import java.util.TreeSet;

/** The public face of the class, and those rules of the language that can be read off the source. */
public final class FaceTest {
    private static int wrong = 0;

    public static void main(String[] args) throws IOException {
        face();
        constants();
        fields();
        source();
        System.out.println(wrong == 0 ? "the face is as due" : wrong + " faults in the face");
        if (wrong != 0) {
            System.exit(1);
        }
    }

    private static void check(boolean holds, String what) {
        if (!holds) {
            wrong++;
            System.out.println("not so: " + what);
        }
    }

    private static void face() {
        Set<String> want = new TreeSet<>(Arrays.asList(
                "towns 0", "price 3", "line 2", "sow 2", "mark 3", "priceOf 2", "best 0",
                "bestCode 0", "bestTours 0", "allowed 0", "priceOfTour 1", "isAllowed 1",
                "within 1", "path 2", "bestPath 0", "span 0", "worth 2",
                "OPEN", "REQUIRED", "CLOSED", "new 1"));
        Set<String> names = new TreeSet<>();
        Set<String> got = new TreeSet<>();
        for (Method m : TourBounds.class.getDeclaredMethods()) {
            check(!m.isSynthetic(), m + " is no lambda");
            if (Modifier.isPrivate(m.getModifiers())) {
                check(m.getParameterCount() <= 7, m + " has at most seven parameters");
                continue;
            }
            got.add(m.getName() + " " + m.getParameterCount());
            check(names.add(m.getName()), m.getName() + " stands once");
            check(m.getModifiers() == Modifier.PUBLIC, m + " is public and nothing more");
            check(m.getReturnType() == int.class, m + " answers an int");
            check(Arrays.stream(m.getParameterTypes()).allMatch(t -> t == int.class), m + " takes ints");
        }
        for (Method m : TourBounds.class.getDeclaredMethods()) {
            check(!Modifier.isPrivate(m.getModifiers()) || !names.contains(m.getName()),
                    m + " bears no public name");
        }
        for (Field f : TourBounds.class.getDeclaredFields()) {
            if (!Modifier.isPrivate(f.getModifiers())) {
                got.add(f.getName());
            }
        }
        for (Constructor<?> c : TourBounds.class.getDeclaredConstructors()) {
            got.add("new " + c.getParameterCount());
            check(c.getModifiers() == Modifier.PUBLIC, "the constructor is public");
            check(Arrays.equals(c.getParameterTypes(), new Class<?>[] {int.class}), "it takes an int");
        }
        check(got.equals(want), "members " + got + " are " + want);
        check(TourBounds.class.getModifiers() == (Modifier.PUBLIC | Modifier.FINAL), "public final class");
        check(TourBounds.class.getPackageName().isEmpty(), "no package");
        check(TourBounds.class.getDeclaredClasses().length == 0, "no nested class");
    }

    private static void constants() {
        check(TourBounds.OPEN == 0, "OPEN is 0");
        check(TourBounds.REQUIRED == 1, "REQUIRED is 1");
        check(TourBounds.CLOSED == 2, "CLOSED is 2");
    }

    private static void fields() {
        int count = 0;
        for (Field f : TourBounds.class.getDeclaredFields()) {
            int mods = f.getModifiers();
            Class<?> type = f.getType().isArray() ? f.getType().getComponentType() : f.getType();
            check(type.isPrimitive() && type != float.class && type != double.class, f + " has a whole type");
            if (Modifier.isStatic(mods)) {
                check(Modifier.isFinal(mods), f + " is a constant");
                check(f.getType() == int.class || f.getType() == long.class, f + " is int or long");
            } else {
                count++;
            }
        }
        check(count <= 40, "at most forty fields");
    }

    private static void source() throws IOException {
        String text = Files.readString(Path.of("src/main/java/TourBounds.java"))
                .replaceAll("(?s)/\\*.*?\\*/", " ")
                .replaceAll("//[^\n]*", " ");
        String[] ruledOut = {
            "import", "package", "throw", "throws", "try", "catch", "finally", "synchronized", "assert",
            "instanceof", "null", "float", "double", "String", "Math", "Integer", "System", "Arrays",
            "protected", "getClass", "hashCode", "equals", "clone",
        };
        for (String word : ruledOut) {
            check(!text.matches("(?s).*\\b" + word + "\\b.*"), "no " + word);
        }
        check(!text.contains("::") && !text.contains("\""), "no method reference, no text");
        for (String made : text.split("\\bnew\\b")) {
            boolean first = text.startsWith(made);
            check(first || made.matches("(?s)\\s+(int|long|short|byte|char|boolean)\\s*\\[.*"),
                    "just arrays of whole numbers are made");
        }
    }
}
