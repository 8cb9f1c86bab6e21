import java.lang.reflect.Constructor;
import java.lang.reflect.Field;
import java.lang.reflect.Member;
import java.lang.reflect.Method;
import java.lang.reflect.Modifier;
import java.nio.charset.StandardCharsets;
import java.nio.file.Files;
import java.nio.file.Path;
import java.util.ArrayList;
import java.util.Arrays;
import java.util.List;
import java.util.TreeSet;
import java.util.regex.Pattern;

/** The public face and the rules of LANGUAGE.md that can be read off the class and its text. */
public final class FaceTest {
    private static final String[] FACE = {
        "int feed(int,int,int,int,int)", "boolean truncate(int)", "int parse()", "int errorCode()",
        "int errorOffset()", "int count(int)", "int find(boolean)",
        "int asker(int,int) IndexOutOfBoundsException", "int kind(int,int) IndexOutOfBoundsException",
        "int ballot(int,int) IndexOutOfBoundsException", "int order(int) IndexOutOfBoundsException",
        "int request(int,int) IllegalArgumentException NoSuchElementException",
        "int line(int,int) IndexOutOfBoundsException NoSuchElementException", "int progress()",
        "int answer(int,int) IllegalArgumentException NoSuchElementException",
        "int points(int) IndexOutOfBoundsException", "int firsts(int,int) IndexOutOfBoundsException",
        "boolean beats(int,int) IndexOutOfBoundsException", "int wins(int) IndexOutOfBoundsException",
        "int champion()", "int voted(int,int) IndexOutOfBoundsException IllegalArgumentException",
        "boolean isDecisive(int) IndexOutOfBoundsException", "int votes()",
        "int differences(int,int) IllegalArgumentException", "int distance(int) IndexOutOfBoundsException",
        "int middle(int) IndexOutOfBoundsException", "double meanWait(int) IndexOutOfBoundsException",
        "float share(int) IndexOutOfBoundsException", "int debts()", "int richest()",
        "int run(int) IllegalArgumentException",
        "int ask(int,int,int) IndexOutOfBoundsException IllegalArgumentException IllegalStateException",
        "int cancel(int) IllegalStateException NoSuchElementException", "int cast(int) IllegalArgumentException",
        "int veto(int,int) IndexOutOfBoundsException IllegalStateException",
        "int payBack(int) IndexOutOfBoundsException", "int setTally(int) IllegalArgumentException",
        "int setManner(int,int) IndexOutOfBoundsException IllegalArgumentException",
        "int undo() IllegalStateException",
        "int answeredIn(int,int) IllegalArgumentException NoSuchElementException",
        "int answersIn(int,int) IndexOutOfBoundsException IllegalArgumentException",
        "int bestVeto(int,int) IndexOutOfBoundsException IllegalArgumentException",
        "int bestTally(int) IllegalArgumentException", "int bestBallot(int) IllegalArgumentException",
        "int silentIn(int) IndexOutOfBoundsException", "int emptyIn()", "int printOrder()", "int outputByte(int)",
        "int saveState()", "int restoreState() IllegalStateException"};
    private static final String[] CONSTANTS = {"NONE=-1", "POINTS=0", "FIRSTS=1", "PAIRS=2", "SERIAL=0", "SHORT=1",
        "RICH=2", "OWING=3"};
    private static final String[] FORBIDDEN = {"->", "::", "\\btry\\b", "\\bcatch\\b", "\\bfinally\\b",
        "\\bsynchronized\\b", "\\bassert\\b", "\\binstanceof\\b", "\\bpackage\\b", "Exact\\(", "\\bMath\\.random",
        "\\bThread\\b", "System\\.(?!arraycopy)", "\\bvar\\b", "\\bextends\\b", "@", "\\bdo \\{", "\\+ \"", "\" \\+"};

    public static void main(String[] args) throws Exception {
        face();
        constants();
        members();
        text(new String(Files.readAllBytes(Path.of("src/main/java/BallotBus.java")), StandardCharsets.ISO_8859_1));
        Check.end();
    }

    private static void face() throws Exception {
        TreeSet<String> due = new TreeSet<>(Arrays.asList(FACE));
        TreeSet<String> got = new TreeSet<>();
        for (Method method : BallotBus.class.getDeclaredMethods()) {
            if (!Modifier.isPrivate(method.getModifiers())) {
                got.add(signature(method));
                Check.is(method + " is public alone", method.getModifiers(), Modifier.PUBLIC);
            }
        }
        Check.is("the face", got.toString(), due.toString());
        Check.is("the class", BallotBus.class.getModifiers(), Modifier.PUBLIC | Modifier.FINAL);
        Constructor<?>[] made = BallotBus.class.getDeclaredConstructors();
        Check.is("one constructor", made.length, 1);
        Check.is("it is public", made[0].getModifiers(), Modifier.PUBLIC);
        Check.is("it takes nothing", made[0].getParameterCount(), 0);
    }

    private static String signature(Method method) {
        List<String> types = new ArrayList<>();
        for (Class<?> type : method.getParameterTypes()) {
            types.add(type.getSimpleName());
        }
        StringBuilder text = new StringBuilder(method.getReturnType().getSimpleName() + " " + method.getName() + "("
            + String.join(",", types) + ")");
        for (Class<?> thrown : method.getExceptionTypes()) {
            text.append(' ').append(thrown.getSimpleName());
        }
        return text.toString();
    }

    private static void constants() throws Exception {
        TreeSet<String> got = new TreeSet<>();
        for (Field field : BallotBus.class.getDeclaredFields()) {
            if (!Modifier.isPrivate(field.getModifiers())) {
                got.add(field.getName() + "=" + field.getInt(null));
                Check.is(field + " is a constant", field.getModifiers(),
                    Modifier.PUBLIC | Modifier.STATIC | Modifier.FINAL);
            }
        }
        Check.is("the constants", got.toString(), new TreeSet<>(Arrays.asList(CONSTANTS)).toString());
    }

    private static void members() {
        TreeSet<String> names = new TreeSet<>();
        for (String method : FACE) {
            names.add(method.substring(method.indexOf(' ') + 1, method.indexOf('(')));
        }
        List<Class<?>> classes = new ArrayList<>(Arrays.asList(BallotBus.class.getDeclaredClasses()));
        Check.is("some twelve classes", classes.size() <= 11, true);
        for (Class<?> inner : classes) {
            Check.is(inner + " is static", Modifier.isStatic(inner.getModifiers()), true);
            Check.is(inner + " is private", Modifier.isPrivate(inner.getModifiers()), true);
            own(inner, names);
        }
        for (Method method : BallotBus.class.getDeclaredMethods()) {
            if (Modifier.isPrivate(method.getModifiers())) {
                Check.is(method + " bears a name of its own", names.contains(method.getName()), false);
            }
        }
        fields(BallotBus.class);
    }

    private static void own(Class<?> inner, TreeSet<String> names) {
        for (Method method : inner.getDeclaredMethods()) {
            Check.is(method + " bears a name of its own", names.contains(method.getName()), false);
            Check.is(method + " takes at most seven", method.getParameterCount() <= 7, true);
        }
        fields(inner);
    }

    private static void fields(Class<?> type) {
        int variables = 0;
        for (Field field : type.getDeclaredFields()) {
            if (isStatic(field)) {
                Check.is(field + " is final", Modifier.isFinal(field.getModifiers()), true);
            } else {
                variables++;
            }
        }
        Check.is(type + " has some twenty fields", variables <= 20, true);
    }

    private static boolean isStatic(Member member) {
        return Modifier.isStatic(member.getModifiers());
    }

    private static void text(String source) {
        for (int index = 0; index < source.length(); index++) {
            char sign = source.charAt(index);
            if (sign != '\n' && (sign < 32 || sign > 126)) {
                Check.is("sign at " + index, sign, 0);
            }
        }
        String code = source.replaceAll("(?s)/\\*.*?\\*/", "").replaceAll("//[^\n]*", "");
        for (String forbidden : FORBIDDEN) {
            Check.is("use of " + forbidden, Pattern.compile(forbidden).matcher(code).find(), false);
        }
        Check.is("imports", code.split("\nimport ", -1).length + (code.startsWith("import ") ? 1 : 0) - 1, 1);
        Check.is("the import", code.startsWith("import java.util.NoSuchElementException;\n"), true);
        methodsAreShort(source.split("\n"));
    }

    private static void methodsAreShort(String[] lines) {
        int start = 0;
        for (int index = 0; index < lines.length; index++) {
            boolean opens = lines[index].matches("( {4}| {8})[^ }/*].*\\{") && !lines[index].contains(" class ");
            if (opens) {
                start = index;
            }
            if (lines[index].matches("( {4}| {8})\\}")) {
                Check.is("method at line " + (start + 1) + " is short", index - start < 60 || start == 0, true);
            }
        }
    }
}
