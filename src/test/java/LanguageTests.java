import java.io.IOException;
import java.lang.reflect.Constructor;
import java.lang.reflect.Field;
import java.lang.reflect.Method;
import java.lang.reflect.Modifier;
import java.nio.file.Files;
import java.nio.file.Path;
import java.util.Set;
import java.util.TreeSet;
import java.util.regex.Matcher;
import java.util.regex.Pattern;

/** The face of the class, and those rules of LANGUAGE.md that can be read off it. */
final class LanguageTests {
    private static final String[] FACE = {
        "int draft(int,int,int,int) IllegalArgumentException",
        "int course(int,int) IllegalArgumentException,IllegalStateException",
        "int file(int) IllegalArgumentException,IllegalStateException",
        "int grow(int,boolean,int) IllegalArgumentException,IllegalStateException",
        "int jump(int,int,int) IllegalArgumentException,IllegalStateException",
        "int fence(int,int,int,int) IllegalArgumentException,IllegalStateException",
        "boolean lift(int,int) IndexOutOfBoundsException,IllegalArgumentException,IllegalStateException",
        "int knock() ",
        "int ofInstrument(int,int) IndexOutOfBoundsException,IllegalArgumentException",
        "int ofDeed(int,int) IndexOutOfBoundsException,IllegalArgumentException,IllegalStateException",
        "int corner(int,int,boolean) IndexOutOfBoundsException,IllegalStateException,IllegalArgumentException",
        "int owner(int,int,int) IndexOutOfBoundsException,IllegalArgumentException",
        "int title(int,int,int) IndexOutOfBoundsException,IllegalArgumentException",
        "int link(int,int,int) IndexOutOfBoundsException,IllegalArgumentException",
        "int area(int,int) IndexOutOfBoundsException,IllegalArgumentException",
        "int line(int,int) IndexOutOfBoundsException,IllegalArgumentException",
        "String row(int,int) IndexOutOfBoundsException,IllegalArgumentException",
        "int county(int) IllegalArgumentException",
        "int borders(int) IllegalArgumentException",
        "int cut(int,int,int) IndexOutOfBoundsException,IllegalArgumentException",
        "int wouldFile(int) IllegalArgumentException",
        "boolean isSound() ",
        "long digest() ",
    };

    private LanguageTests() {
    }

    static void theFaceIsThatOfTheDocument() {
        Set<String> due = new TreeSet<>(Set.of(FACE));
        Set<String> got = new TreeSet<>();
        Set<String> hidden = new TreeSet<>();
        Set<String> open = new TreeSet<>();
        for (Method method : Cornerdeed.class.getDeclaredMethods()) {
            if (Modifier.isPrivate(method.getModifiers())) {
                hidden.add(method.getName());
            } else {
                got.add((Modifier.isPublic(method.getModifiers()) ? "" : "not public ") + told(method));
                open.add(method.getName());
            }
        }
        Check.same("methods", got, due);
        hidden.retainAll(open);
        Check.same("private methods with a public name", hidden, Set.of());
    }

    static void nothingElseIsOpen() {
        Class<?> type = Cornerdeed.class;
        Check.same("class", type.getModifiers(), Modifier.PUBLIC | Modifier.FINAL);
        Constructor<?>[] constructors = type.getDeclaredConstructors();
        Check.same("constructors", constructors.length, 1);
        Check.same("constructor", constructors[0].toString(), "public Cornerdeed()");
        for (Field field : type.getDeclaredFields()) {
            Check.same(field + " is private", Modifier.isPrivate(field.getModifiers()), true);
        }
        Check.same("as many classes as a file may have", type.getDeclaredClasses().length <= 11, true);
        for (Class<?> inside : type.getDeclaredClasses()) {
            Check.same(inside + " is static", Modifier.isStatic(inside.getModifiers()), true);
            Check.same(inside + " is hidden", inside.getModifiers() & (Modifier.PUBLIC | Modifier.PROTECTED), 0);
        }
    }

    static void staticFieldsAreFinal() {
        for (Field field : Cornerdeed.class.getDeclaredFields()) {
            Check.same(field + " may be static", !isStatic(field) || isFinal(field), true);
        }
        for (Class<?> inside : Cornerdeed.class.getDeclaredClasses()) {
            for (Field field : inside.getDeclaredFields()) {
                Check.same(field + " may be static", !isStatic(field) || isFinal(field), true);
            }
        }
    }

    private static boolean isStatic(Field field) {
        return Modifier.isStatic(field.getModifiers());
    }

    private static boolean isFinal(Field field) {
        return Modifier.isFinal(field.getModifiers());
    }

    static void aClassHasSomeTwentyFieldsAtMost() {
        Check.same("fields", ownFields(Cornerdeed.class) <= 20, true);
        for (Class<?> inside : Cornerdeed.class.getDeclaredClasses()) {
            Check.same("fields of " + inside, ownFields(inside) <= 20, true);
        }
    }

    private static int ownFields(Class<?> type) {
        int count = 0;
        for (Field field : type.getDeclaredFields()) {
            count += isStatic(field) ? 0 : 1;
        }
        return count;
    }

    static void aMethodTakesSevenParametersAtMost() {
        Check.same("parameters", mostParameters(Cornerdeed.class) <= 7, true);
        for (Class<?> inside : Cornerdeed.class.getDeclaredClasses()) {
            Check.same("parameters in " + inside, mostParameters(inside) <= 7, true);
        }
    }

    private static int mostParameters(Class<?> type) {
        int most = 0;
        for (Method method : type.getDeclaredMethods()) {
            most = Math.max(most, method.getParameterCount());
        }
        for (Constructor<?> constructor : type.getDeclaredConstructors()) {
            most = Math.max(most, constructor.getParameterCount());
        }
        return most;
    }

    static void theSourceKeepsToItsPartOfJava() throws IOException {
        Check.same("all signs are plain", source().chars().allMatch(sign -> sign == '\n' || sign >= 32 && sign < 127),
            true);
        String[] forbidden = {"::", "->", "\" +", "+ \"", "finally", "synchronized", "assert ", "package ",
            "System.out", "System.err", "System.nanoTime", "System.currentTimeMillis", "System.exit", "java.io",
            "java.time", "Random", "Thread", "Throwable", "NullPointerException", "ArrayIndexOutOfBoundsException",
            "ClassCastException", "NegativeArraySizeException", "ArrayStoreException", "hashCode", "Exact(",
            "getMessage", "NaN", "var "};
        for (String word : forbidden) {
            Check.same("the source has " + word, code().contains(word), false);
        }
    }

    static void onlyWhatTheRulesListIsImported() throws IOException {
        Set<String> listed = Set.of("java.util.ArrayList", "java.util.Arrays", "java.util.Iterator", "java.util.List",
            "java.util.NoSuchElementException");
        Matcher imports = Pattern.compile("(?m)^import (.*);$").matcher(code());
        while (imports.find()) {
            Check.same("import of " + imports.group(1), listed.contains(imports.group(1)), true);
        }
    }

    static void eachThrowIsOfAListedExceptionWithAWrittenText() throws IOException {
        String listed = "throw new (IllegalState|IllegalArgument|IndexOutOfBounds|Arithmetic|UnsupportedOperation"
            + "|NoSuchElement|Runtime)Exception\\((\"[^\"]*\")?\\);";
        String rest = code().replaceAll(listed, "");
        Check.same("another throw", Pattern.compile("\\bthrow\\b").matcher(rest).find(), false);
        Check.same("a catch of what is not thrown", Pattern.compile("\\bcatch\\b").matcher(rest).find(), false);
    }

    /** Some sixty lines are allowed. A method of the class begins at the column 4, one of a class inside it at 8. */
    static void noMethodIsLong() throws IOException {
        String[] lines = source().split("\n");
        int methods = 0;
        for (int k = 0; k < lines.length; k++) {
            if (lines[k].matches("(    |        )(?!(if|for|while|switch|return|throw)\\b)\\w[^=;]*\\([^;]*")) {
                String end = lines[k].replaceAll("\\S.*", "") + "}";
                int last = k;
                while (last < lines.length && !lines[last].equals(end)) {
                    last++;
                }
                Check.same("the method at the line " + (k + 1) + " is short", last - k < 60, true);
                methods++;
            }
        }
        Check.same("all methods of the face were found", methods > FACE.length, true);
    }

    private static String source() throws IOException {
        return Files.readString(Path.of("src/main/java/Cornerdeed.java"));
    }

    private static String code() throws IOException {
        return source().replaceAll("(?s)/\\*.*?\\*/", "").replaceAll("//[^\n]*", "");
    }

    private static String told(Method method) {
        StringBuilder text = new StringBuilder(method.getReturnType().getSimpleName());
        text.append(' ').append(method.getName()).append('(').append(names(method.getParameterTypes())).append(") ");
        return text.append(names(method.getExceptionTypes())).toString();
    }

    private static String names(Class<?>[] types) {
        StringBuilder text = new StringBuilder();
        for (Class<?> type : types) {
            text.append(text.length() == 0 ? "" : ",").append(type.getSimpleName());
        }
        return text.toString();
    }
}
