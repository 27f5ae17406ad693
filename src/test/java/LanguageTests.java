import java.io.IOException;
import java.lang.reflect.Constructor;
import java.lang.reflect.Field;
import java.lang.reflect.Method;
import java.lang.reflect.Modifier;
import java.nio.file.Files;
import java.nio.file.Path;
import java.util.Set;
import java.util.TreeSet;

/** The face of the class, and those rules of LANGUAGE.md that can be read off it. */
final class LanguageTests {
    private static final String[] FACE = {
        "int draft(int,int,int,int) IllegalArgumentException",
        "int course(int,int) IllegalArgumentException,IllegalStateException",
        "int file(int) IllegalArgumentException,IllegalStateException",
        "int grow(int,boolean,int) IllegalArgumentException,IllegalStateException",
        "int jump(int,int,int) IllegalArgumentException,IllegalStateException",
        "int fence(int,int,int,int) IllegalArgumentException,IllegalStateException",
        "boolean lift(int,int) IndexOutOfBoundsException,IllegalArgumentException,IllegalStateException",
        "int knock() ",
        "int ofInstrument(int,int) IndexOutOfBoundsException,IllegalArgumentException",
        "int ofDeed(int,int) IndexOutOfBoundsException,IllegalArgumentException,IllegalStateException",
        "int corner(int,int,boolean) IndexOutOfBoundsException,IllegalStateException,IllegalArgumentException",
        "int owner(int,int,int) IndexOutOfBoundsException,IllegalArgumentException",
        "int title(int,int,int) IndexOutOfBoundsException,IllegalArgumentException",
        "int link(int,int,int) IndexOutOfBoundsException,IllegalArgumentException",
        "int area(int,int) IndexOutOfBoundsException,IllegalArgumentException",
        "int line(int,int) IndexOutOfBoundsException,IllegalArgumentException",
        "String row(int,int) IndexOutOfBoundsException,IllegalArgumentException",
        "int county(int) IllegalArgumentException",
        "int borders(int) IllegalArgumentException",
        "int cut(int,int,int) IndexOutOfBoundsException,IllegalArgumentException",
        "int wouldFile(int) IllegalArgumentException",
        "boolean isSound() ",
        "long digest() ",
    };

    private LanguageTests() {
    }

    static void theFaceIsThatOfTheDocument() {
        Set<String> due = new TreeSet<>(Set.of(FACE));
        Set<String> got = new TreeSet<>();
        Set<String> hidden = new TreeSet<>();
        Set<String> open = new TreeSet<>();
        for (Method method : Cornerdeed.class.getDeclaredMethods()) {
            if (Modifier.isPrivate(method.getModifiers())) {
                hidden.add(method.getName());
            } else {
                got.add((Modifier.isPublic(method.getModifiers()) ? "" : "not public ") + told(method));
                open.add(method.getName());
            }
        }
        Check.same("methods", got, due);
        hidden.retainAll(open);
        Check.same("private methods with a public name", hidden, Set.of());
    }

    static void nothingElseIsOpen() {
        Class<?> type = Cornerdeed.class;
        Check.same("class", type.getModifiers(), Modifier.PUBLIC | Modifier.FINAL);
        Constructor<?>[] constructors = type.getDeclaredConstructors();
        Check.same("constructors", constructors.length, 1);
        Check.same("constructor", constructors[0].toString(), "public Cornerdeed()");
        for (Field field : type.getDeclaredFields()) {
            Check.same(field + " is private", Modifier.isPrivate(field.getModifiers()), true);
        }
        Check.same("as many classes as a file may have", type.getDeclaredClasses().length <= 11, true);
        for (Class<?> inside : type.getDeclaredClasses()) {
            Check.same(inside + " is static", Modifier.isStatic(inside.getModifiers()), true);
            Check.same(inside + " is hidden", inside.getModifiers() & (Modifier.PUBLIC | Modifier.PROTECTED), 0);
        }
    }

    static void staticFieldsAreConstants() {
        for (Field field : Cornerdeed.class.getDeclaredFields()) {
            if (Modifier.isStatic(field.getModifiers())) {
                Check.same(field + " is final", Modifier.isFinal(field.getModifiers()), true);
                Check.same(field + " is a number", field.getType(), int.class);
            }
        }
        for (Class<?> inside : Cornerdeed.class.getDeclaredClasses()) {
            for (Field field : inside.getDeclaredFields()) {
                Check.same(field + " is static", Modifier.isStatic(field.getModifiers()), false);
            }
        }
    }

    static void theSourceKeepsToItsPartOfJava() throws IOException {
        String source = Files.readString(Path.of("src/main/java/Cornerdeed.java"));
        String[] forbidden = {"->", "::", "catch", "finally", "synchronized", "assert", "@Override", "package ",
            "import static", "java.util.*", "var ", "Exact", "System.", "Object ", "Throwable", "hashCode", ".equals"};
        for (String word : forbidden) {
            Check.same("the source has " + word, source.contains(word), false);
        }
        Check.same("all signs are plain", source.chars().allMatch(sign -> sign == '\n' || sign >= 32 && sign < 127),
            true);
    }

    private static String told(Method method) {
        StringBuilder text = new StringBuilder(method.getReturnType().getSimpleName());
        text.append(' ').append(method.getName()).append('(').append(names(method.getParameterTypes())).append(") ");
        return text.append(names(method.getExceptionTypes())).toString();
    }

    private static String names(Class<?>[] types) {
        StringBuilder text = new StringBuilder();
        for (Class<?> type : types) {
            text.append(text.length() == 0 ? "" : ",").append(type.getSimpleName());
        }
        return text.toString();
    }
}
