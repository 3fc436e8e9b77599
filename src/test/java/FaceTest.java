import java.io.IOException;
import java.lang.reflect.Constructor;
import java.lang.reflect.Field;
import java.lang.reflect.Method;
import java.lang.reflect.Modifier;
import java.nio.file.Files;
import java.nio.file.Path;
import java.util.Arrays;
import java.util.List;
import java.util.Set;
import java.util.TreeSet;

/** The face of the class, and those rules of ../shared/LANGUAGE.md that can be seen without a parser. */
public final class FaceTest {
    private static final String ARGUMENT = "IllegalArgumentException";
    private static final String INDEX = "IndexOutOfBoundsException";
    private static final String STATE = "IllegalStateException";

    private static final List<String> DUE = List.of(
            "int addField(int, int, boolean) [" + ARGUMENT + ", " + STATE + "]",
            "boolean own(int, int, int, boolean) [" + ARGUMENT + ", " + INDEX + "]",
            "int set(int, int, int, int) [" + ARGUMENT + ", " + INDEX + "]",
            "boolean fail(int, boolean) [" + ARGUMENT + "]",
            "int begin(int) [" + ARGUMENT + "]",
            "int node(int, int) [" + INDEX + ", " + STATE + "]",
            "int nodes() []",
            "int typeOf(int) [" + INDEX + "]",
            "int hops() [" + STATE + "]",
            "int takenFrom(int) [" + INDEX + ", " + STATE + "]",
            "int used() [" + STATE + "]",
            "int value(int, int) [" + ARGUMENT + ", " + INDEX + ", " + STATE + "]",
            "boolean isMissing(int) [" + ARGUMENT + ", " + STATE + "]",
            "int faults(int) [" + ARGUMENT + ", " + STATE + "]",
            "int loaded(int, int, int) [" + ARGUMENT + ", " + INDEX + ", " + STATE + "]",
            "int harmed() [" + STATE + "]",
            "int least(int) [" + INDEX + ", " + STATE + ", NoSuchElementException]");

    private static final List<String> FORBIDDEN = List.of("->", "::", "try ", "try{", "catch", "finally",
            "synchronized", "assert ", "instanceof", "Exact(", "String", "Random", "System.", "Thread");

    public static void main(String[] args) throws IOException {
        methodsAreThoseOfTheDocument();
        nothingElseIsVisible();
        noNameIsUsedTwice();
        staticFieldsAreConstants();
        sourceKeepsToTheLanguage();
        Check.end();
    }

    private static String described(Method method) {
        List<String> takes = Arrays.stream(method.getParameterTypes()).map(Class::getSimpleName).toList();
        List<String> throwing = Arrays.stream(method.getExceptionTypes()).map(Class::getSimpleName).toList();
        return method.getReturnType().getSimpleName() + " " + method.getName()
                + "(" + String.join(", ", takes) + ") " + throwing;
    }

    private static void methodsAreThoseOfTheDocument() {
        Set<String> got = new TreeSet<>();
        for (Method method : QueryGateway.class.getDeclaredMethods()) {
            if (!Modifier.isPrivate(method.getModifiers())) {
                got.add(described(method));
                Check.same("public " + method, Modifier.isPublic(method.getModifiers()), true);
                Check.same("not static " + method, Modifier.isStatic(method.getModifiers()), false);
            }
        }
        Check.same("the methods", got.toString(), new TreeSet<>(DUE).toString());
    }

    private static void nothingElseIsVisible() {
        Check.same("final", Modifier.isFinal(QueryGateway.class.getModifiers()), true);
        Constructor<?>[] constructors = QueryGateway.class.getDeclaredConstructors();
        Check.same("constructors", constructors.length, 1);
        Check.same("public constructor", Modifier.isPublic(constructors[0].getModifiers()), true);
        Check.same("constructor's parameters", constructors[0].getParameterCount(), 0);
        for (Field field : QueryGateway.class.getDeclaredFields()) {
            Check.same("private " + field, Modifier.isPrivate(field.getModifiers()), true);
        }
        for (Class<?> inside : QueryGateway.class.getDeclaredClasses()) {
            Check.same("private " + inside, Modifier.isPrivate(inside.getModifiers()), true);
            Check.same("static " + inside, Modifier.isStatic(inside.getModifiers()), true);
        }
    }

    private static void noNameIsUsedTwice() {
        Set<String> names = new TreeSet<>();
        for (String method : DUE) {
            names.add(method.substring(method.indexOf(' ') + 1, method.indexOf('(')));
        }
        for (Method method : QueryGateway.class.getDeclaredMethods()) {
            if (Modifier.isPrivate(method.getModifiers())) {
                Check.same("a public name in private " + method, names.contains(method.getName()), false);
            }
        }
        for (Class<?> inside : QueryGateway.class.getDeclaredClasses()) {
            for (Method method : inside.getDeclaredMethods()) {
                Check.same("a public name inside " + method, names.contains(method.getName()), false);
            }
        }
    }

    private static void staticFieldsAreConstants() {
        for (Field field : QueryGateway.class.getDeclaredFields()) {
            if (Modifier.isStatic(field.getModifiers())) {
                Check.same("final " + field, Modifier.isFinal(field.getModifiers()), true);
                Check.same("int " + field, field.getType() == int.class, true);
            }
        }
    }

    private static void sourceKeepsToTheLanguage() throws IOException {
        int made = 0;
        for (String line : Files.readAllLines(Path.of("src/main/java/QueryGateway.java"))) {
            String code = line.strip();
            if (code.startsWith("import ")) {
                Check.same("import " + code, code.equals("import java.util.Arrays;")
                        || code.equals("import java.util.NoSuchElementException;"), true);
            } else if (!code.startsWith("/") && !code.startsWith("*")) {
                for (String word : FORBIDDEN) {
                    Check.same(word + " in: " + code, code.contains(word), false);
                }
            }
            if (code.contains("new ") && !code.contains("throw new ")) {
                made++;
            }
        }
        // Five parts, and the rows in their constructors: no call makes an object but an exception.
        Check.same("what the source makes", made, 5 + 5 + 2 + 4 + 3);
    }
}
