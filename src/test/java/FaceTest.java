import java.io.IOException;
import java.lang.reflect.Constructor;
import java.lang.reflect.Field;
import java.lang.reflect.Method;
import java.lang.reflect.Modifier;
import java.nio.file.Files;
import java.nio.file.Path;
import java.util.Arrays;
import java.util.HashSet;
import java.util.List;
import java.util.Set;
import java.util.TreeSet;
import java.util.stream.Collectors;

/** The class has the document's face and nothing else that is visible, and its text keeps to the plainest rules. */
public final class FaceTest {
    private static final Path PROGRAM = Path.of("src/main/java/TableColumnBalancer.java");
    private static final String FACE = """
        int addCell(int,int,int,int) IllegalArgument IllegalState IndexOutOfBounds
        int addRow() IllegalState
        int addWord(int,int,int) IllegalArgument IllegalState IndexOutOfBounds UnsupportedOperation
        int append(int) IllegalArgument IllegalState
        int autoHeight() IllegalState
        int autoWidth(int) IllegalState IndexOutOfBounds
        int bestHeight() IllegalState
        int bestWidth(int) IllegalState IndexOutOfBounds
        int cellAt(int,int) IndexOutOfBounds
        int cellHeight(int,int) IllegalArgument IndexOutOfBounds
        int clearWords(int) IndexOutOfBounds UnsupportedOperation
        int columnWidth(int,int) IllegalArgument IndexOutOfBounds
        int conflicts()
        int copyTo(int,int,int) IllegalArgument IllegalState IndexOutOfBounds NoSuchElement
        int costOfWord(int,int) IllegalArgument IllegalState IndexOutOfBounds UnsupportedOperation
        int count(int) IllegalArgument
        int critical() IllegalState NoSuchElement
        int errorPosition()
        int execute() IllegalArgument IllegalState
        int guess(int,int) IllegalArgument IndexOutOfBounds
        int heightAt(int) IllegalArgument NoSuchElement
        int heightFor(int,int,int,int) IllegalArgument
        int improvement(int) NoSuchElement
        int improvements()
        int lineCount(int,int) IllegalArgument IndexOutOfBounds UnsupportedOperation
        int lineLength(int,int,int) IllegalArgument IndexOutOfBounds NoSuchElement UnsupportedOperation
        int makeClip(int,int,int) IllegalArgument IndexOutOfBounds
        int narrowest(int) NoSuchElement
        int nextStep(int,int) IllegalArgument IndexOutOfBounds NoSuchElement
        int paste(int,int,int,int) IllegalState IndexOutOfBounds NoSuchElement
        int property(int,int) IllegalArgument IndexOutOfBounds
        int raggednessBits(int) IllegalState IndexOutOfBounds UnsupportedOperation
        int removeCell(int) IndexOutOfBounds
        int restore() IllegalState
        int rowHeight(int,boolean) IllegalState IndexOutOfBounds
        int save()
        int setColumn(int,int,int) IllegalArgument IndexOutOfBounds
        int setColumns(int) IllegalArgument IllegalState
        int setKind(int,int) IllegalArgument IndexOutOfBounds UnsupportedOperation
        int setMeasure(int,int) IllegalArgument IndexOutOfBounds
        int setSize(int,int,int) IllegalArgument IndexOutOfBounds UnsupportedOperation
        int tallest(int) IllegalState IndexOutOfBounds NoSuchElement
        long densityBits() Arithmetic IllegalState
        """;
    private static int wrong = 0;

    private FaceTest() {
    }

    public static void main(String[] args) throws IOException {
        Class<?> face = TableColumnBalancer.class;
        demand(face.getModifiers() == (Modifier.PUBLIC | Modifier.FINAL), "the class is public and final");
        Constructor<?>[] constructors = face.getDeclaredConstructors();
        demand(constructors.length == 1 && constructors[0].getParameterCount() == 0
            && Modifier.isPublic(constructors[0].getModifiers()), "there is one constructor, public and without arguments");
        methods(face);
        for (Field field : face.getDeclaredFields()) {
            demand(Modifier.isPrivate(field.getModifiers()), "private: " + field);
        }
        for (Class<?> inside : face.getDeclaredClasses()) {
            parts(inside);
        }
        text();
        System.out.println(wrong == 0 ? "the face is as due" : wrong + " faults");
        if (wrong != 0) {
            System.exit(1);
        }
    }

    private static void demand(boolean holds, String what) {
        if (!holds) {
            wrong++;
            System.out.println("does not hold: " + what);
        }
    }

    private static void methods(Class<?> face) {
        Set<String> found = new TreeSet<>();
        Set<String> names = new HashSet<>();
        for (Method method : face.getDeclaredMethods()) {
            if (Modifier.isPublic(method.getModifiers())) {
                found.add(signature(method));
                names.add(method.getName());
            } else {
                demand(Modifier.isPrivate(method.getModifiers()), "private: " + method);
            }
        }
        Set<String> due = new TreeSet<>(Arrays.asList(FACE.split("\n")));
        demand(found.equals(due), "the public methods are " + due + "\nfound " + found);
        privateNames(face, names);
        for (Class<?> inside : face.getDeclaredClasses()) {
            privateNames(inside, names);
        }
    }

    private static String signature(Method method) {
        String parameters = Arrays.stream(method.getParameterTypes()).map(Class::getSimpleName)
            .collect(Collectors.joining(",", "(", ")"));
        String exceptions = Arrays.stream(method.getExceptionTypes())
            .map(type -> " " + type.getSimpleName().replace("Exception", "")).sorted().collect(Collectors.joining());
        return method.getReturnType().getSimpleName() + " " + method.getName() + parameters + exceptions;
    }

    private static void privateNames(Class<?> type, Set<String> publicNames) {
        for (Method method : type.getDeclaredMethods()) {
            demand(!Modifier.isPrivate(method.getModifiers()) || !publicNames.contains(method.getName()),
                "no private method has the name of a public one: " + method);
        }
    }

    private static void parts(Class<?> inside) {
        int modifiers = inside.getModifiers();
        demand(Modifier.isStatic(modifiers) && !Modifier.isPublic(modifiers) && !Modifier.isProtected(modifiers),
            "static and private or package-visible: " + inside);
        demand(inside.getDeclaredFields().length <= 24, "few fields: " + inside);
        for (Method method : inside.getDeclaredMethods()) {
            demand(method.getParameterCount() <= 7, "few parameters: " + method);
        }
    }

    private static void text() throws IOException {
        List<String> lines = Files.readAllLines(PROGRAM);
        List<String> imports = lines.stream().filter(line -> line.startsWith("import ")).toList();
        demand(imports.equals(List.of("import java.util.Arrays;", "import java.util.NoSuchElementException;")),
            "only these imports: " + imports);
        String[] refused = {"catch", "finally", "synchronized", "assert", "->", "::", "instanceof", "getClass", "Exact("};
        for (String line : lines) {
            for (String word : refused) {
                demand(!line.contains(word), "no " + word + " in: " + line.strip());
            }
            demand(line.length() <= 125, "a short line: " + line.strip());
        }
    }
}
