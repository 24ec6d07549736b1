import java.io.IOException;
import java.lang.reflect.Field;
import java.lang.reflect.Method;
import java.lang.reflect.Modifier;
import java.nio.file.Files;
import java.nio.file.Path;
import java.util.ArrayList;
import java.util.List;
import java.util.TreeSet;

/** The public face as the document prints it, and what the rules of the language rule out. */
public final class FaceTest {
    private static final Path SOURCE = Path.of("src/main/java/ConstructionLedger.java");
    private static final Path DOCUMENT = Path.of("../shared/DOC.md");
    private static final String[] RULED_OUT = {
        "import ", "package ", "->", "::", "try ", "catch", "finally", "synchronized", "assert ", "@", ".equals(",
        "hashCode", "toString", "NaN", "native ", "transient ", "volatile ", "static {", "System.out", "Thread",
        "Exact(", "enum ", "interface ", "extends ", "implements ", "protected ", "goto ", "var ",
    };

    public static void main(String[] args) throws IOException {
        face();
        constants();
        rules();
        Check.end("FaceTest");
    }

    private static void face() throws IOException {
        String document = Files.readString(DOCUMENT);
        String face = document.substring(document.indexOf("```java") + 7);
        face = face.substring(0, face.indexOf("```"));
        TreeSet<String> want = new TreeSet<>();
        for (String line : face.split("\n")) {
            if (line.contains("(") && !line.contains("public ConstructionLedger(")) {
                want.add(line.trim().replaceAll(" throws .*|;", "").replaceAll(" (\\w+)(?=[,)])", ""));
            }
        }
        TreeSet<String> got = new TreeSet<>();
        TreeSet<String> own = new TreeSet<>();
        for (Method m : ConstructionLedger.class.getDeclaredMethods()) {
            if (Modifier.isPublic(m.getModifiers())) {
                List<String> types = new ArrayList<>();
                for (Class<?> type : m.getParameterTypes()) {
                    types.add(type.getName());
                }
                got.add("public " + m.getReturnType().getName() + " " + m.getName()
                        + "(" + String.join(", ", types) + ")");
                own.add(m.getName());
            }
        }
        Check.yes("methods " + got + " for " + want, got.equals(want));
        for (Class<?> inside : classes()) {
            for (Method m : inside.getDeclaredMethods()) {
                Check.yes(m + " bears a public name", Modifier.isPublic(m.getModifiers()) || !own.contains(m.getName()));
                Check.yes(m + " takes too many parameters", m.getParameterCount() <= 7);
            }
        }
        Check.same("constructors", ConstructionLedger.class.getConstructors().length, 1);
    }

    private static List<Class<?>> classes() {
        List<Class<?>> all = new ArrayList<>(List.of(ConstructionLedger.class.getDeclaredClasses()));
        all.add(ConstructionLedger.class);
        return all;
    }

    private static void constants() {
        Check.same("SYNTAX_ERROR", ConstructionLedger.SYNTAX_ERROR, -2);
        Check.same("OUT_OF_RANGE", ConstructionLedger.OUT_OF_RANGE, -3);
        Check.same("TOO_MANY", ConstructionLedger.TOO_MANY, -4);
        Check.same("TOO_DEEP", ConstructionLedger.TOO_DEEP, -5);
        Check.same("public constants", ConstructionLedger.class.getFields().length, 4);
        for (Class<?> inside : classes()) {
            int fields = 0;
            for (Field f : inside.getDeclaredFields()) {
                boolean isStatic = Modifier.isStatic(f.getModifiers());
                Check.yes(f + " is static and may change", !isStatic || Modifier.isFinal(f.getModifiers()));
                fields += isStatic ? 0 : 1;
                if (inside == ConstructionLedger.class) {
                    int m = f.getModifiers();
                    Check.yes(f + " can be seen", Modifier.isPrivate(m) || Modifier.isPublic(m) && isStatic);
                }
            }
            Check.yes(inside + " has many fields: " + fields, fields <= 20);
        }
        Check.yes("many classes", classes().size() <= 12);
    }

    private static void rules() throws IOException {
        int number = 0;
        for (String line : Files.readAllLines(SOURCE)) {
            number++;
            String code = line.replaceAll("^ *(/?\\*|//).*", "");
            for (String word : RULED_OUT) {
                Check.no("line " + number + " holds " + word, code.contains(word));
            }
            Check.yes("line " + number + " is wide", line.length() <= 100);
        }
    }
}
