import java.io.IOException;
import java.lang.reflect.Constructor;
import java.lang.reflect.Field;
import java.lang.reflect.Method;
import java.lang.reflect.Modifier;
import java.nio.file.Files;
import java.nio.file.Path;
import java.util.Arrays;
import java.util.HashSet;
import java.util.Set;
import java.util.TreeSet;
import java.util.regex.Matcher;
import java.util.regex.Pattern;
import java.util.stream.Collectors;

/** The face is that of ../shared/DOC.md, and some rules of ../shared/LANGUAGE.md that a look can tell. */
public final class FaceTest {
    private static final Path SOURCE = Path.of("src/main/java/LineOffice.java");
    private static final Path DOC = Path.of("../shared/DOC.md");

    private static String row(Method m) {
        String parameters = Arrays.stream(m.getParameterTypes()).map(Class::getSimpleName)
                .collect(Collectors.joining(","));
        String thrown = Arrays.stream(m.getExceptionTypes()).map(Class::getSimpleName)
                .collect(Collectors.joining(","));
        return m.getReturnType().getSimpleName() + " " + m.getName() + "(" + parameters + ") " + thrown;
    }

    private static void methodsAreThoseOfTheDocument() throws IOException {
        Set<String> due = new TreeSet<>();
        Matcher printed = Pattern.compile("    public (\\w+) (\\w+)\\(([^)]*)\\)(?: throws ([^;]*))?;")
                .matcher(Files.readString(DOC));
        while (printed.find()) {
            String parameters = printed.group(3).replaceAll("(\\w+) \\w+", "$1").replace(" ", "");
            String thrown = printed.group(4) == null ? "" : printed.group(4).replace(" ", "");
            due.add(printed.group(1) + " " + printed.group(2) + "(" + parameters + ") " + thrown);
        }
        Set<String> got = new TreeSet<>();
        Set<String> faces = new HashSet<>();
        for (Method m : LineOffice.class.getDeclaredMethods()) {
            if (Modifier.isPublic(m.getModifiers())) {
                got.add(row(m));
                faces.add(m.getName());
            }
        }
        Check.same("methods of the document", due.size(), 48);
        Check.same("public methods", got.toString(), due.toString());
        for (Method m : LineOffice.class.getDeclaredMethods()) {
            boolean isHidden = Modifier.isPrivate(m.getModifiers()) && !faces.contains(m.getName());
            Check.same("private, or public: " + m.getName(), isHidden ^ Modifier.isPublic(m.getModifiers()) ? 1 : 0, 1);
        }
    }

    private static void constantsAreThoseOfTheDocument() throws IllegalAccessException {
        StringBuilder told = new StringBuilder();
        for (Field f : LineOffice.class.getDeclaredFields()) {
            boolean isFinal = Modifier.isFinal(f.getModifiers());
            if (Modifier.isPublic(f.getModifiers()) && Modifier.isStatic(f.getModifiers()) && isFinal) {
                told.append(f.getType()).append(' ').append(f.getName()).append('=').append(f.getInt(null)).append(' ');
            } else {
                Check.same("private: " + f.getName(), Modifier.isPrivate(f.getModifiers()) ? 1 : 0, 1);
            }
            Check.same("final if static: " + f.getName(), isFinal || !Modifier.isStatic(f.getModifiers()) ? 1 : 0, 1);
        }
        Check.same("constants", told.toString(), "int NONE=-1 int WRONG=-2 int FULL=-3 int NO_ERROR=0 int SYNTAX=1 "
                + "int OUT_OF_RANGE=2 int REPEATED=3 int TOO_MANY=4 int PROSE=0 int VERSE=1 int LIST=2 ");
    }

    private static void oneFinalClassWithOneConstructor() {
        Check.same("final", Modifier.isFinal(LineOffice.class.getModifiers()) ? 1 : 0, 1);
        Constructor<?>[] all = LineOffice.class.getDeclaredConstructors();
        Check.same("constructors", all.length, 1);
        Check.same("public", Modifier.isPublic(all[0].getModifiers()) && all[0].getParameterCount() == 0 ? 1 : 0, 1);
        Check.same("some twelve classes", LineOffice.class.getDeclaredClasses().length <= 11 ? 1 : 0, 1);
        for (Class<?> inside : LineOffice.class.getDeclaredClasses()) {
            String name = inside.getSimpleName();
            Check.same("private and static: " + name, Modifier.isPrivate(inside.getModifiers())
                    && Modifier.isStatic(inside.getModifiers()) ? 1 : 0, 1);
            long fields = Arrays.stream(inside.getDeclaredFields())
                    .filter(f -> !Modifier.isStatic(f.getModifiers())).count();
            Check.same("some twenty fields: " + name, fields <= 20 ? 1 : 0, 1);
        }
    }

    /** Nothing is caught, for nothing needs to be; and nothing stands that the language leaves out. */
    private static void sourceKeepsToTheLanguage() throws IOException {
        String code = Files.readString(SOURCE).replaceAll("(?s)/\\*.*?\\*/", "").replaceAll("//[^\n]*", "")
                .replaceAll("\"[^\"\n]*\"", "\"\"");
        String[] left = {"\\bcatch\\b", "\\bfinally\\b", "->", "::", "\\bsynchronized\\b", "\\bassert\\b",
            "\\btransient\\b", "\\bprotected\\b", "\\bNaN\\b", "Exact\\b", "\\bSystem\\.(?!arraycopy)", "\\bRandom\\b",
            "\\bThread\\b", "\\binstanceof\\b", "\\.ordinal\\(", "\"\"\\s*\\+", "\\+\\s*\"\"", "\\bstatic \\{"};
        for (String banned : left) {
            Check.same("left out: " + banned, Pattern.compile(banned).matcher(code).find() ? 1 : 0, 0);
        }
        Matcher imports = Pattern.compile("import ([\\w.]+);").matcher(code);
        while (imports.find()) {
            Check.same("import", imports.group(1), "java.util.NoSuchElementException");
        }
        Matcher thrown = Pattern.compile("throw (?!new (IllegalStateException|IllegalArgumentException"
                + "|IndexOutOfBoundsException|NoSuchElementException)\\(\"\"\\);)").matcher(code);
        Check.same("another throw", thrown.find() ? 1 : 0, 0);
    }

    public static void main(String[] args) throws Exception {
        methodsAreThoseOfTheDocument();
        constantsAreThoseOfTheDocument();
        oneFinalClassWithOneConstructor();
        sourceKeepsToTheLanguage();
        Check.end();
    }
}
