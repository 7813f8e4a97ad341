import java.io.IOException;
import java.lang.reflect.Constructor;
import java.lang.reflect.Field;
import java.lang.reflect.Method;
import java.lang.reflect.Modifier;
import java.nio.file.Files;
import java.nio.file.Path;
import java.util.ArrayList;
import java.util.List;
import java.util.Set;
import java.util.TreeSet;
import java.util.regex.Matcher;
import java.util.regex.Pattern;

/** The public face, and those rules of LANGUAGE.md that can be looked up. */
public final class LanguageTest {
    private static final String[] FACE = {
        "int put(int,int)", "boolean change(int,int,int)", "int clear(int)", "int code(int,int)",
        "int verify()", "int lift()", "int text(int)", "int where()", "int letter(int)", "int copy()",
        "int read()", "int run(int,int)", "int walk(int,int)", "int output(int)", "int count(int)"};
    private static final String[] CONSTANTS = {
        "REFUSED -1", "NONE -2", "FULL -3", "WRONG -4", "KNOTTED -5", "FAULT -6", "STOPPED -7"};

    private LanguageTest() {
    }

    public static void main(String[] args) throws IOException, IllegalAccessException {
        methodsAreTheFace();
        constantsAreTheFace();
        classesAreClosed();
        String source = Files.readString(Path.of(args[0]));
        wordsAreAllowed(withoutCommentsAndTexts(source));
        methodsStayShort(source);
        Due.end();
    }

    private static void methodsAreTheFace() {
        Set<String> seen = new TreeSet<>();
        Set<String> names = new TreeSet<>();
        for (Method method : SourceDesk.class.getDeclaredMethods()) {
            if (!Modifier.isPrivate(method.getModifiers())) {
                seen.add(told(method));
                names.add(method.getName());
                Due.is(method.getName() + " is public", method.getModifiers(), Modifier.PUBLIC);
            }
        }
        Due.is("methods of the face", seen.toString(), new TreeSet<>(List.of(FACE)).toString());
        for (Class<?> one : classes()) {
            for (Method method : one.getDeclaredMethods()) {
                boolean bears = names.contains(method.getName()) && one != SourceDesk.class;
                Due.is(one.getName() + "." + method.getName() + " bears a name of the face", bears, false);
                Due.is(method.getName() + " takes at most seven", method.getParameterCount() <= 7, true);
            }
        }
        Constructor<?>[] made = SourceDesk.class.getDeclaredConstructors();
        Due.is("constructors", made.length, 1);
        Due.is("its parameters", made[0].getParameterCount(), 0);
        Due.is("it is public", made[0].getModifiers(), Modifier.PUBLIC);
    }

    private static String told(Method method) {
        List<String> parameters = new ArrayList<>();
        for (Class<?> type : method.getParameterTypes()) {
            parameters.add(type.getName());
        }
        return method.getReturnType() + " " + method.getName() + "(" + String.join(",", parameters) + ")";
    }

    private static void constantsAreTheFace() throws IllegalAccessException {
        Set<String> seen = new TreeSet<>();
        for (Field field : SourceDesk.class.getDeclaredFields()) {
            int modifiers = field.getModifiers();
            if (!Modifier.isPrivate(modifiers)) {
                Due.is(field.getName(), modifiers, Modifier.PUBLIC | Modifier.STATIC | Modifier.FINAL);
                seen.add(field.getName() + " " + field.getInt(null));
            }
        }
        Due.is("constants of the face", seen.toString(), new TreeSet<>(List.of(CONSTANTS)).toString());
    }

    private static List<Class<?>> classes() {
        List<Class<?>> all = new ArrayList<>(List.of(SourceDesk.class.getDeclaredClasses()));
        all.add(SourceDesk.class);
        return all;
    }

    private static void classesAreClosed() {
        Due.is("SourceDesk", SourceDesk.class.getModifiers(), Modifier.PUBLIC | Modifier.FINAL);
        Due.is("at most twelve classes", classes().size() <= 12, true);
        for (Class<?> one : classes()) {
            int own = 0;
            for (Field field : one.getDeclaredFields()) {
                boolean fixed = Modifier.isStatic(field.getModifiers());
                own += fixed ? 0 : 1;
                Due.is(field.getName() + " is final if static", !fixed || Modifier.isFinal(field.getModifiers()), true);
            }
            Due.is(one.getName() + " has at most twenty fields", own <= 20, true);
            Due.is(one.getName() + " is closed", Modifier.isFinal(one.getModifiers()), true);
            if (one != SourceDesk.class) {
                Due.is(one.getName() + " is not public", Modifier.isPublic(one.getModifiers()), false);
                Due.is(one.getName() + " is static", Modifier.isStatic(one.getModifiers()), true);
            }
        }
    }

    private static String withoutCommentsAndTexts(String source) {
        return source.replaceAll("(?s)/\\*.*?\\*/", " ").replaceAll("//[^\n]*", " ")
            .replaceAll("'[^']'", "' '").replaceAll("\"[^\"\n]*\"", "\"\"");
    }

    private static void wordsAreAllowed(String source) {
        String[] banned = {"\\bthrow\\b", "\\btry\\b", "\\bcatch\\b", "\\bfinally\\b", "\\bsynchronized\\b",
            "\\bassert\\b", "->", "::", "\\bpackage\\b", "\\bimport\\b", "\\bprotected\\b", "\\bnull\\b",
            "\\binstanceof\\b", "\\bvolatile\\b", "\\bnative\\b", "\\bdouble\\b", "\\bfloat\\b", "Exact\\b",
            "currentTimeMillis", "nanoTime", "\\bThread\\b", "@", "while *\\( *true", "for *\\( *; *;"};
        for (String word : banned) {
            Due.is("the source has " + word, Pattern.compile(word).matcher(source).find(), false);
        }
        Matcher calls = Pattern.compile("\\b(System|Math|Arrays|Integer|Long)\\.(\\w+)").matcher(source);
        Set<String> allowed = Set.of("System.arraycopy", "Math.max", "Math.min");
        while (calls.find()) {
            Due.is(calls.group() + " is of the library", allowed.contains(calls.group()), true);
        }
        Matcher made = Pattern.compile("\\n( *)[\\w.]+ = new |\\bnew ").matcher(source);
        while (made.find()) {
            Due.is("made outside of a constructor: " + made.group(), made.group(1) != null, true);
        }
    }

    /** A method begins and ends at the same indent, so its length can be told from the lines. */
    private static void methodsStayShort(String source) {
        Matcher method = Pattern.compile("(?sm)^( {4}| {8})(?! )[^\\n]*\\) \\{\\n(.*?)^\\1\\}").matcher(source);
        int seen = 0;
        while (method.find()) {
            seen++;
            long lines = method.group(2).lines().count();
            Due.is("a method of " + lines + " lines is short", lines <= 60, true);
        }
        Due.is("methods are seen", seen > 50, true);
        Due.is("characters are 0 to 255", source.chars().allMatch(c -> c <= 255), true);
    }
}
