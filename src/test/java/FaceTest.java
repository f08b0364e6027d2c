import java.io.IOException;
import java.lang.reflect.Constructor;
import java.lang.reflect.Field;
import java.lang.reflect.Method;
import java.lang.reflect.Modifier;
import java.nio.charset.StandardCharsets;
import java.nio.file.Files;
import java.nio.file.Path;
import java.util.Arrays;
import java.util.Set;
import java.util.TreeSet;
import java.util.regex.Matcher;
import java.util.regex.Pattern;

/** The public face to the letter, and such rules of LANGUAGE.md as can be seen from outside or in the text. */
public final class FaceTest {
    private static final Check check = new Check("FaceTest");
    private static final String NONE_SUCH = " throws java.util.NoSuchElementException";
    private static final String[] FACE = {"feed int int int int int : int", "end int : boolean", "week : int",
        "fault int : int", "has int : int", "letter int int int : int", "one int int : int", "formBits int : int",
        "game int int : int", "seat int int int : int", "way int int : int", "toward int int : int", "hub : int",
        "why int int int : int", "put int int int : int", "drop int int : int", "swap int int int int : int",
        "could int int int int : int", "able int int : int", "best int int : int", "extra int int int : int",
        "fee int int int : long", "fees int : long", "crew int int : int", "fill : int", "steps int int int : int",
        "unsound int : int", "exchange int : int", "round int int : int", "trip int int int : int", "spread int : int",
        "day : int", "play int : int", "mark int int int : int", "review int int : int", "rank int : int", "undo : int",
        "shelf int int int : int" + NONE_SUCH + " throws java.lang.IllegalArgumentException",
        "lay int int int boolean : boolean" + NONE_SUCH, "look int int : long" + NONE_SUCH};
    private static final String[] FORBIDDEN = {"\\bcatch\\b", "\\bfinally\\b", "->", "::", "\\bsynchronized\\b",
        "\\bassert\\b", "\\bjava\\.(?!util\\.NoSuchElementException)", "\\bString\\.format", "\\bSystem\\.(?!arraycopy)",
        "\\bThread\\b", "\\bNaN\\b", "\\b\\w+Exact\\(", "\\bFloat\\.", "\\bDouble\\.", "\\brecord\\b", "\\bgetClass\\b"};

    public static void main(String[] args) throws IOException {
        faceToTheLetter();
        nothingElse();
        innerClasses();
        text();
        shapesOfMethods();
        check.close();
    }

    private static String told(Method m) {
        StringBuilder text = new StringBuilder(m.getName());
        for (Class<?> kind : m.getParameterTypes()) {
            text.append(' ').append(kind.getName());
        }
        text.append(" : ").append(m.getReturnType().getName());
        for (Class<?> kind : m.getExceptionTypes()) {
            text.append(" throws ").append(kind.getName());
        }
        return text.toString();
    }

    private static boolean isHidden(int modifiers) {
        return Modifier.isPrivate(modifiers);
    }

    private static void faceToTheLetter() {
        Set<String> due = new TreeSet<>(Arrays.asList(FACE));
        Set<String> got = new TreeSet<>();
        for (Method m : WhistleRoster.class.getDeclaredMethods()) {
            if (Modifier.isPublic(m.getModifiers())) {
                got.add(told(m));
            }
        }
        check.due("the public methods " + got, got.equals(due), true);
        check.due("public final", WhistleRoster.class.getModifiers(), Modifier.PUBLIC | Modifier.FINAL);
        check.due("NONE", WhistleRoster.NONE, -1);
        Constructor<?>[] made = WhistleRoster.class.getDeclaredConstructors();
        check.due("constructors", made.length, 1);
        check.due("a public constructor", made[0].getModifiers(), Modifier.PUBLIC);
        check.due("of nothing", made[0].getParameterCount(), 0);
    }

    private static Set<String> faceNames() {
        Set<String> names = new TreeSet<>();
        for (String line : FACE) {
            names.add(line.substring(0, line.indexOf(' ')));
        }
        return names;
    }

    private static void nothingElse() {
        Set<String> names = faceNames();
        for (Method m : WhistleRoster.class.getDeclaredMethods()) {
            if (!Modifier.isPublic(m.getModifiers()) && !m.isSynthetic()) {
                check.due("private: " + m, isHidden(m.getModifiers()), true);
                check.due("a name of its own: " + m, names.contains(m.getName()), false);
            }
        }
        for (Field f : WhistleRoster.class.getDeclaredFields()) {
            boolean isNone = f.getName().equals("NONE");
            check.due("private: " + f, isHidden(f.getModifiers()), !isNone);
        }
    }

    private static void innerClasses() {
        Class<?>[] inside = WhistleRoster.class.getDeclaredClasses();
        check.due("some twelve classes", inside.length + 1 <= 12, true);
        for (Class<?> c : inside) {
            check.due("private or package-visible: " + c, (c.getModifiers() & (Modifier.PUBLIC | Modifier.PROTECTED)) == 0, true);
            check.due("static: " + c, Modifier.isStatic(c.getModifiers()), true);
            int fields = 0;
            for (Field f : c.getDeclaredFields()) {
                boolean isStatic = Modifier.isStatic(f.getModifiers());
                fields += isStatic ? 0 : 1;
                check.due("static ones are final: " + f, !isStatic || Modifier.isFinal(f.getModifiers()), true);
            }
            check.due("some twenty fields: " + c, fields <= 20, true);
            for (Method m : c.getDeclaredMethods()) {
                check.due("seven parameters: " + m, m.getParameterCount() <= 7, true);
                boolean clashes = isHidden(m.getModifiers()) && !m.isSynthetic() && faceNames().contains(m.getName());
                check.due("a name of its own: " + m, clashes, false);
            }
        }
    }

    private static String source() throws IOException {
        return Files.readString(Path.of("src/main/java/WhistleRoster.java"), StandardCharsets.UTF_8);
    }

    private static void text() throws IOException {
        String text = source();
        for (String what : FORBIDDEN) {
            Matcher found = Pattern.compile(what).matcher(text.replace("import java.util.NoSuchElementException;", ""));
            boolean is = found.find();
            check.due("the text has " + (is ? found.group() : what), is, false);
        }
        boolean plain = true;
        for (char c : text.toCharArray()) {
            plain &= c < 127;
        }
        check.due("plain signs", plain, true);
    }

    /**
     * Rule 11: some sixty lines a method. Rule 8: what calls itself is static, or does so by way of another method. A call of
     * another object's method of the same name has a dot ahead of it.
     */
    private static void shapesOfMethods() throws IOException {
        Matcher method = Pattern.compile("\n( +)((?:private |public |static )*)[\\w\\[\\]]+ (\\w+)\\([^()]*\\)[^;{]*\\{\n(.*?)\n\\1\\}",
            Pattern.DOTALL).matcher(source());
        int methods = 0;
        while (method.find()) {
            String name = method.group(3);
            String body = method.group(4);
            boolean callsItself = Pattern.compile("(?<![.\\w])" + name + "\\(").matcher(body).find();
            check.due("some sixty lines: " + name, body.split("\n").length <= 58, true);
            check.due("calls itself, but is not static: " + name, callsItself && !method.group(2).contains("static"), false);
            methods++;
        }
        check.due("methods that were found: " + methods, methods > 140, true);
    }
}
