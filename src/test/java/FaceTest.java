import java.io.IOException;
import java.lang.reflect.Constructor;
import java.lang.reflect.Field;
import java.lang.reflect.Method;
import java.lang.reflect.Modifier;
import java.nio.file.Files;
import java.nio.file.Path;
import java.util.Arrays;
import java.util.HashSet;
import java.util.List;
import java.util.Set;
import java.util.TreeSet;
import java.util.regex.Matcher;
import java.util.regex.Pattern;
import java.util.stream.Collectors;

/** The class has the document's face and nothing else that is visible, and its text keeps to the plainest rules. */
public final class FaceTest {
    private static final Path PROGRAM = Path.of("src/main/java/TableColumnBalancer.java");
    private static final Path DOCUMENT = Path.of("../shared/DOC.md");
    private static final Pattern SIGNATURE = Pattern.compile("(int|long) (\\w+)\\(([^)]*)\\)(?: throws ([\\w., ]+))?");
    private static final int METHODS = 43;
    private static int wrong = 0;

    private FaceTest() {
    }

    public static void main(String[] args) throws IOException {
        Class<?> face = TableColumnBalancer.class;
        demand(face.getModifiers() == (Modifier.PUBLIC | Modifier.FINAL), "the class is public and final");
        Constructor<?>[] constructors = face.getDeclaredConstructors();
        demand(constructors.length == 1 && constructors[0].getParameterCount() == 0
            && Modifier.isPublic(constructors[0].getModifiers()), "there is one constructor, public and without arguments");
        methods(face);
        for (Field field : face.getDeclaredFields()) {
            demand(Modifier.isPrivate(field.getModifiers()), "private: " + field);
        }
        for (Class<?> inside : face.getDeclaredClasses()) {
            parts(inside);
        }
        text();
        System.out.println(wrong == 0 ? "the face is as due" : wrong + " faults");
        if (wrong != 0) {
            System.exit(1);
        }
    }

    private static void demand(boolean holds, String what) {
        if (!holds) {
            wrong++;
            System.out.println("does not hold: " + what);
        }
    }

    /** The face in the document's words, one method to a line; each promise must say the same of its method. */
    private static List<String> promised() throws IOException {
        String document = Files.readString(DOCUMENT);
        String block = document.split("```java\n")[1].split("```")[0];
        List<String> signatures = block.lines().map(String::strip).filter(line -> SIGNATURE.matcher(line).find())
            .map(line -> line.replaceAll("^public |;$", "")).toList();
        demand(signatures.size() == METHODS, "the document promises " + METHODS + " methods");
        for (String signature : signatures) {
            demand(document.contains("\n`" + signature + "`\n"), "a promise for " + signature);
        }
        return signatures;
    }

    private static void methods(Class<?> face) throws IOException {
        Set<String> found = new TreeSet<>();
        Set<String> names = new HashSet<>();
        for (Method method : face.getDeclaredMethods()) {
            if (Modifier.isPublic(method.getModifiers())) {
                found.add(signature(method));
                names.add(method.getName());
            } else {
                demand(Modifier.isPrivate(method.getModifiers()), "private: " + method);
            }
        }
        String program = Files.readString(PROGRAM).replaceAll("\\s+", " ");
        Set<String> due = new TreeSet<>();
        for (String signature : promised()) {
            due.add(signature(signature));
            demand(program.contains(" public " + signature + " {"), "the program has the words " + signature);
        }
        demand(found.equals(due), "the public methods are " + due + "\nfound " + found);
        privateNames(face, names);
        for (Class<?> inside : face.getDeclaredClasses()) {
            privateNames(inside, names);
        }
    }

    /** Types alone, with the exceptions in their order. */
    private static String signature(Method method) {
        String parameters = Arrays.stream(method.getParameterTypes()).map(Class::getSimpleName)
            .collect(Collectors.joining(",", "(", ")"));
        String exceptions = Arrays.stream(method.getExceptionTypes()).map(type -> " " + type.getName().replaceAll(".*\\.", ""))
            .collect(Collectors.joining());
        return method.getReturnType().getSimpleName() + " " + method.getName() + parameters + exceptions;
    }

    private static String signature(String written) {
        Matcher parts = SIGNATURE.matcher(written);
        if (!parts.matches()) {
            throw new IllegalArgumentException("not a signature: " + written);
        }
        String parameters = parts.group(3).replaceAll(" \\w+(, |$)", "$1").replace(" ", "");
        String exceptions = parts.group(4) == null ? "" : " " + parts.group(4).replace("java.util.", "").replace(",", "");
        return parts.group(1) + " " + parts.group(2) + "(" + parameters + ")" + exceptions;
    }

    private static void privateNames(Class<?> type, Set<String> publicNames) {
        for (Method method : type.getDeclaredMethods()) {
            demand(!Modifier.isPrivate(method.getModifiers()) || !publicNames.contains(method.getName()),
                "no private method has the name of a public one: " + method);
        }
    }

    private static void parts(Class<?> inside) {
        int modifiers = inside.getModifiers();
        demand(Modifier.isStatic(modifiers) && !Modifier.isPublic(modifiers) && !Modifier.isProtected(modifiers),
            "static and private or package-visible: " + inside);
        demand(inside.getDeclaredFields().length <= 24, "few fields: " + inside);
        for (Method method : inside.getDeclaredMethods()) {
            demand(method.getParameterCount() <= 7, "few parameters: " + method);
        }
    }

    private static void text() throws IOException {
        List<String> lines = Files.readAllLines(PROGRAM);
        List<String> imports = lines.stream().filter(line -> line.startsWith("import ")).toList();
        demand(imports.equals(List.of("import java.util.Arrays;", "import java.util.NoSuchElementException;")),
            "only these imports: " + imports);
        String[] refused = {"catch", "finally", "synchronized", "assert", "->", "::", "instanceof", "getClass", "Exact("};
        for (String line : lines) {
            for (String word : refused) {
                demand(!line.contains(word), "no " + word + " in: " + line.strip());
            }
            demand(line.length() <= 125, "a short line: " + line.strip());
        }
    }
}
