import java.io.IOException;
import java.lang.reflect.Constructor;
import java.lang.reflect.Field;
import java.lang.reflect.Method;
import java.lang.reflect.Modifier;
import java.nio.file.Files;
import java.nio.file.Path;
import java.util.ArrayList;
import java.util.HashSet;
import java.util.List;
import java.util.Set;
import java.util.TreeSet;
import java.util.regex.Pattern;

/** The class has the face that the document shows, and keeps to the rules of LANGUAGE.md that can be seen here. */
public final class FaceTests {
    private static final Path PROGRAM = Path.of("src/main/java/DreamLedger.java");

    private FaceTests() {
    }

    public static void main(String[] args) throws IOException {
        faceIsTheDocuments();
        nothingElseIsSeen();
        noPrivateMethodBearsAPublicName();
        staticFieldsAreFinal();
        wordsThatAreRuledOut();
        callsMakeNoObjects();
        Checks.end();
    }

    private static void faceIsTheDocuments() throws IOException {
        List<String> lines = Files.readAllLines(Document.FILE);
        Set<String> due = new TreeSet<>();
        int from = lines.indexOf("public final class DreamLedger {");
        for (int line = from + 1; from >= 0 && !lines.get(line).equals("}"); line++) {
            due.add(lines.get(line).trim().replace(";", "").replaceAll("(int|boolean) \\w+([,)])", "$1$2"));
        }
        Set<String> got = new TreeSet<>();
        for (Constructor<?> made : DreamLedger.class.getConstructors()) {
            got.add("public " + made.getName() + "()");
        }
        for (Method method : DreamLedger.class.getDeclaredMethods()) {
            if (Modifier.isPublic(method.getModifiers())) {
                got.add(faceOf(method));
            }
        }
        Checks.same("methods and constructors of the face", due.size(), 43);
        Checks.same("face", got.toString(), due.toString());
    }

    private static String faceOf(Method method) {
        List<String> asks = new ArrayList<>();
        for (Class<?> each : method.getParameterTypes()) {
            asks.add(each.getSimpleName());
        }
        List<String> throwing = new ArrayList<>();
        for (Class<?> each : method.getExceptionTypes()) {
            throwing.add(each.getSimpleName());
        }
        return "public " + method.getReturnType().getSimpleName() + " " + method.getName()
                + "(" + String.join(", ", asks) + ")"
                + (throwing.isEmpty() ? "" : " throws " + String.join(", ", throwing));
    }

    private static void nothingElseIsSeen() {
        Class<?> c = DreamLedger.class;
        Checks.same("the class is public and final", c.getModifiers(), Modifier.PUBLIC | Modifier.FINAL);
        Checks.same("constructors", c.getDeclaredConstructors().length, 1);
        for (Method method : c.getDeclaredMethods()) {
            int how = method.getModifiers();
            boolean known = Modifier.isPublic(how) && !Modifier.isStatic(how) || Modifier.isPrivate(how);
            Checks.same("public or private: " + method.getName(), known, true);
        }
        for (Field field : c.getDeclaredFields()) {
            Checks.same("private: " + field.getName(), Modifier.isPrivate(field.getModifiers()), true);
        }
        for (Class<?> inside : c.getDeclaredClasses()) {
            int how = inside.getModifiers();
            Checks.same("static and not public: " + inside.getName(),
                    Modifier.isStatic(how) && !Modifier.isPublic(how) && !Modifier.isProtected(how), true);
        }
    }

    private static void noPrivateMethodBearsAPublicName() {
        Set<String> names = new HashSet<>();
        for (Method method : DreamLedger.class.getMethods()) {
            names.add(method.getName());
        }
        List<Method> others = new ArrayList<>(List.of(DreamLedger.class.getDeclaredMethods()));
        for (Class<?> inside : DreamLedger.class.getDeclaredClasses()) {
            others.addAll(List.of(inside.getDeclaredMethods()));
        }
        for (Method method : others) {
            if (!Modifier.isPublic(method.getModifiers())) {
                Checks.same("not a public name: " + method.getName(), names.contains(method.getName()), false);
            }
        }
    }

    private static void staticFieldsAreFinal() {
        List<Field> fields = new ArrayList<>(List.of(DreamLedger.class.getDeclaredFields()));
        for (Class<?> inside : DreamLedger.class.getDeclaredClasses()) {
            fields.addAll(List.of(inside.getDeclaredFields()));
        }
        for (Field field : fields) {
            if (Modifier.isStatic(field.getModifiers())) {
                Checks.same("final: " + field.getName(), Modifier.isFinal(field.getModifiers()), true);
            }
        }
    }

    private static void wordsThatAreRuledOut() throws IOException {
        String text = Files.readString(PROGRAM);
        String code = text.replaceAll("(?s)/\\*.*?\\*/", "").replaceAll("\"[^\"\n]*\"", "\"\"");
        String[] words = {"\\bpackage\\b", "\\bimport\\b", "->", "::", "\\btry\\b", "\\bcatch\\b", "\\bfinally\\b",
            "\\bsynchronized\\b", "\\bassert\\b", "static \\{", "\\bSystem\\b", "\\bObject\\b", "\\bequals\\b",
            "\\bhashCode\\b", "\\btoString\\b", "Exact\\b"};
        for (String word : words) {
            Checks.same("ruled out: " + word, Pattern.compile(word).matcher(code).find(), false);
        }
    }

    /** All calls of a run live in one room, so that objects are made in constructors alone, and for exceptions. */
    private static void callsMakeNoObjects() throws IOException {
        for (String line : Files.readAllLines(PROGRAM)) {
            boolean makes = line.contains("new ") && !line.trim().startsWith("*");
            boolean allowed = line.contains("throw new ") || line.trim().startsWith("private final ");
            Checks.same("makes an object: " + line.trim(), makes && !allowed, false);
        }
    }
}
