import java.io.IOException;
import java.lang.reflect.Field;
import java.lang.reflect.Method;
import java.lang.reflect.Modifier;
import java.nio.file.Files;
import java.nio.file.Path;
import java.util.List;
import java.util.Set;
import java.util.TreeSet;
import java.util.regex.Matcher;
import java.util.regex.Pattern;

/** Some rules of ../shared/LANGUAGE.md that reflection and the text of the class show. */
public final class LanguageTest {
    private static final Path SOURCE = Path.of("src/main/java/AlibiWindow.java");
    private static final Set<String> FACE = Set.of("set", "putRegister", "putCell", "run", "flush", "again", "append",
        "clearBuffer", "firstError", "load", "undo", "instruction", "entry", "whyNot", "register", "cell", "count",
        "setting", "ifRun", "cyclesLeft", "bestWindow", "worstLoad", "earlyShare", "digest");
    private static final Set<Class<?>> CONSTANTS = Set.of(int.class, long.class, boolean.class, char.class, String.class);
    private static final List<String> BANNED = List.of("\\bimport\\b", "\\bpackage\\b", "\\bFloat\\b", "\\bDouble\\b",
        "->", "::", "\\bsynchronized\\b", "\\bassert\\b", "\\bfinally\\b", "\\bcatch\\b", "static \\{",
        "\\bequals\\b", "\\bhashCode\\b", "\\btoString\\b", "\\bvar\\b", "\\+ \"", "\" \\+");

    private static final Set<String> LIBRARY = Set.of("Math.floorMod", "System.arraycopy");

    private static final Check CHECK = new Check();

    public static void main(String[] args) throws IOException {
        faceIsTheDocuments();
        for (Class<?> inside : AlibiWindow.class.getDeclaredClasses()) {
            CHECK.holds(inside + " is static", Modifier.isStatic(inside.getModifiers()));
            CHECK.holds(inside + " is private", Modifier.isPrivate(inside.getModifiers()));
            CHECK.holds(inside + " has few fields", membersOf(inside) <= 20);
            fieldsAreRight(inside);
            methodsAreRight(inside);
        }
        CHECK.holds("few fields", membersOf(AlibiWindow.class) <= 20);
        fieldsAreRight(AlibiWindow.class);
        textIsRight();
        CHECK.end();
    }

    private static void faceIsTheDocuments() {
        Set<String> face = new TreeSet<>();
        for (Method method : AlibiWindow.class.getDeclaredMethods()) {
            boolean isPublic = Modifier.isPublic(method.getModifiers());
            CHECK.holds(method + " is public or private", isPublic || Modifier.isPrivate(method.getModifiers()));
            CHECK.holds(method + " alone has its name", isPublic ? face.add(method.getName()) : !FACE.contains(method.getName()));
            CHECK.holds(method + " takes seven at most", method.getParameterCount() <= 7);
        }
        CHECK.holds("the face is " + face, face.equals(FACE));
        CHECK.due("constructors", AlibiWindow.class.getDeclaredConstructors().length, 1);
        CHECK.holds("the class is final", Modifier.isFinal(AlibiWindow.class.getModifiers()));
        for (Field field : AlibiWindow.class.getDeclaredFields()) {
            CHECK.holds(field + " is private", field.getName().equals("NONE") || Modifier.isPrivate(field.getModifiers()));
        }
    }

    private static int membersOf(Class<?> type) {
        int members = 0;
        for (Field field : type.getDeclaredFields()) {
            members += Modifier.isStatic(field.getModifiers()) ? 0 : 1;
        }
        return members;
    }

    private static void fieldsAreRight(Class<?> type) {
        for (Field field : type.getDeclaredFields()) {
            if (Modifier.isStatic(field.getModifiers())) {
                CHECK.holds(field + " is a constant",
                    Modifier.isFinal(field.getModifiers()) && CONSTANTS.contains(field.getType()));
            }
        }
    }

    private static void methodsAreRight(Class<?> type) {
        for (Method method : type.getDeclaredMethods()) {
            CHECK.holds(method + " has a name of its own", !FACE.contains(method.getName()));
            CHECK.holds(method + " takes seven at most", method.getParameterCount() <= 7);
        }
    }

    private static void textIsRight() throws IOException {
        String text = Files.readString(SOURCE);
        String code = text.replaceAll("//.*|(?s:/\\*.*?\\*/)", "");
        for (String banned : BANNED) {
            Matcher matcher = Pattern.compile(banned).matcher(code);
            CHECK.holds("no " + banned, !matcher.find());
        }
        Matcher calls = Pattern.compile("\\b(?:[A-Z][A-Za-z]*|java[a-z.]*)\\.[a-z]\\w*").matcher(code);
        while (calls.find()) {
            boolean isOwn = calls.group().matches("(Machine|Floats|Text|Instruction)\\..*");
            CHECK.holds(calls.group() + " is of the library", isOwn || LIBRARY.contains(calls.group()));
        }
        CHECK.holds("signs are plain", text.chars().allMatch(c -> c == '\n' || c >= 32 && c < 127));
    }
}
