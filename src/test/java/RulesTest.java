import java.io.IOException;
import java.lang.reflect.Constructor;
import java.lang.reflect.Field;
import java.lang.reflect.Method;
import java.lang.reflect.Modifier;
import java.nio.charset.StandardCharsets;
import java.nio.file.Files;
import java.nio.file.Path;
import java.util.Set;
import java.util.TreeSet;
import java.util.regex.Matcher;
import java.util.regex.Pattern;

/**
 * The rules of LANGUAGE.md that can be seen from outside, or from the words of the program, whose path can be given as
 * an argument.
 */
public final class RulesTest {
    private static final Due DUE = new Due();
    private static final String[] FACE = {
        "int set(int,int)", "int track(int,int,int)", "int touch(int,int,int)", "int mend(int)", "int feed(int,int)",
        "int cool()", "int warm(int)", "int probe(int,int)", "int at(int,int,int)", "int row(int,int)",
        "int ofTouch(int,int)", "int reading(int,int)", "int ofNet(int,int)", "int count(int)", "long mean()",
        "int bestProbe(int)", "int readsIn(int,int,int)", "int wouldRead(int,int,int,int)", "int put(long)",
        "int wipe()", "int fault()", "int carryOut()", "int undo()", "int save(int)", "int restore(int)"};
    private static final String[] CONSTANTS = {
        "NO_SUCH", "BAD_VALUE", "BAD_TEXT", "TOO_MANY", "NOT_POSSIBLE", "NONE", "SPREAD", "LOSS", "POWER", "DOUBT"};
    private static final String[] NOT_WANTED = {
        "->", "::", "\\bimport\\b", "\\bpackage\\b", "\\btry\\b", "\\bcatch\\b", "\\bfinally\\b", "\\bthrows?\\b",
        "\\bassert\\b", "\\bsynchronized\\b", "\\bFloat\\b", "\\bDouble\\b", "\\bjava\\b", "Exact\\b",
        "\\bSystem\\.(?!arraycopy\\b)", "\\bprotected\\b", "\\bvar\\b"};

    public static void main(String[] args) throws IOException {
        face();
        classesInside();
        words(args.length > 0 ? args[0] : "src/main/java/WarmProbes.java");
        DUE.end();
    }

    private static void face() {
        Set<String> want = new TreeSet<>(Set.of(FACE));
        Set<String> got = new TreeSet<>();
        for (Method method : WarmProbes.class.getDeclaredMethods()) {
            if (Modifier.isPrivate(method.getModifiers())) {
                DUE.is("private method with a name of the face: " + method.getName(), isOfFace(method) ? 1 : 0, 0);
            } else {
                DUE.is("static " + method.getName(), Modifier.isStatic(method.getModifiers()) ? 1 : 0, 0);
                got.add(told(method));
            }
        }
        DUE.is("the methods " + got, got.equals(want) ? 1 : 0, 1);
        Set<String> constants = new TreeSet<>();
        for (Field field : WarmProbes.class.getDeclaredFields()) {
            if (!Modifier.isPrivate(field.getModifiers())) {
                constants.add(field.getName());
                DUE.is("modifiers of " + field, field.getModifiers(),
                    Modifier.PUBLIC | Modifier.STATIC | Modifier.FINAL);
            }
        }
        DUE.is("the constants " + constants, constants.equals(new TreeSet<>(Set.of(CONSTANTS))) ? 1 : 0, 1);
        Constructor<?>[] constructors = WarmProbes.class.getDeclaredConstructors();
        DUE.is("constructors", constructors.length, 1);
        DUE.is("public constructor", constructors[0].getModifiers(), Modifier.PUBLIC);
        DUE.is("class", WarmProbes.class.getModifiers(), Modifier.PUBLIC | Modifier.FINAL);
    }

    private static String told(Method method) {
        StringBuilder told = new StringBuilder();
        told.append(method.getReturnType()).append(' ').append(method.getName()).append('(');
        for (Class<?> type : method.getParameterTypes()) {
            told.append(told.charAt(told.length() - 1) == '(' ? "" : ",").append(type);
        }
        return told.append(')').toString();
    }

    private static boolean isOfFace(Method method) {
        for (String told : FACE) {
            if (told.contains(" " + method.getName() + "(")) {
                return true;
            }
        }
        return false;
    }

    private static void classesInside() {
        Class<?>[] classes = WarmProbes.class.getDeclaredClasses();
        DUE.is("at most 12 classes", classes.length <= 11 ? 1 : 0, 1);
        for (Class<?> inside : classes) {
            DUE.is("private and static " + inside, inside.getModifiers(),
                Modifier.PRIVATE | Modifier.STATIC | Modifier.FINAL);
            DUE.is("at most 20 fields " + inside, inside.getDeclaredFields().length <= 20 ? 1 : 0, 1);
            for (Method method : inside.getDeclaredMethods()) {
                DUE.is("name of the face " + method, isOfFace(method) ? 1 : 0, 0);
                DUE.is("parameters of " + method, method.getParameterCount() <= 7 ? 1 : 0, 1);
            }
        }
    }

    private static void words(String path) throws IOException {
        String source = Files.readString(Path.of(path), StandardCharsets.US_ASCII);
        String code = source.replaceAll("(?s)/\\*.*?\\*/", "").replaceAll("//[^\n]*", "")
            .replaceAll("\"[^\"\n]*\"", "\"\"").replaceAll("'[^'\n]'", "''");
        for (String word : NOT_WANTED) {
            Matcher matcher = Pattern.compile(word).matcher(code);
            DUE.is("a word that is not wanted: " + word, matcher.find() ? 1 : 0, 0);
        }
        int start = -1;
        String[] lines = code.split("\n");
        for (int i = 0; i < lines.length; i++) {
            if (lines[i].matches(" {4}( {4})?(public|private)[^=;]*\\) \\{")) {
                start = i;
            } else if (start >= 0 && lines[i].matches(" {4}( {4})?\\}")) {
                DUE.is("lines of the method at " + (start + 1), i - start < 60 ? 1 : 0, 1);
                start = -1;
            }
        }
    }
}
