import java.io.File;
import java.io.IOException;
import java.lang.reflect.Field;
import java.lang.reflect.InvocationTargetException;
import java.lang.reflect.Method;
import java.lang.reflect.Modifier;
import java.nio.charset.StandardCharsets;
import java.nio.file.Files;
import java.nio.file.Path;
import java.util.ArrayList;
import java.util.List;
import java.util.regex.Matcher;
import java.util.regex.Pattern;

/** README.md holds true: its example answers what it says, and it names the whole face and every test. */
public final class ReadmeTest {
    private static final Pattern BLOCK = Pattern.compile("```java\n(.*?)```", Pattern.DOTALL);
    private static final Pattern PUT = Pattern.compile("put\\(bus, \"(.*)\"\\);");
    private static final Pattern CALL =
        Pattern.compile("bus\\.(\\w+)\\((.*)\\); +// (throws \\w+|-?[0-9]+(?:\\.[0-9]+)?)(?:[ ,:].*)?");

    public static void main(String[] args) throws Exception {
        String page = read("README.md");
        List<String> blocks = new ArrayList<>();
        Matcher matcher = BLOCK.matcher(page);
        while (matcher.find()) {
            blocks.add(matcher.group(1));
        }
        Check.is("blocks of Java", blocks.size(), 2);
        String source = read("src/test/java/ReadmeTest.java");
        Check.is("put is the one of this test", source.contains(indented(blocks.get(0))), true);
        example(blocks.get(1).split("\n"));
        names(page);
        Check.end();
    }

    private static String read(String file) throws IOException {
        return new String(Files.readAllBytes(Path.of(file)), StandardCharsets.US_ASCII);
    }

    private static String indented(String block) {
        return "    " + block.trim().replace("\n", "\n    ") + "\n";
    }

    private static void put(BallotBus bus, String text) {
        for (int start = 0; start < text.length(); start += 20) {
            int[] words = new int[5];
            for (int index = 0; index < 20; index++) {
                int sign = start + index < text.length() ? text.charAt(start + index) : ' ';
                words[index / 4] = words[index / 4] << 8 | sign;
            }
            bus.feed(words[0], words[1], words[2], words[3], words[4]);
        }
        bus.truncate(text.length());
    }

    private static void example(String[] lines) throws Exception {
        Check.is("the first line", lines[0], "BallotBus bus = new BallotBus();");
        BallotBus bus = new BallotBus();
        for (int index = 1; index < lines.length; index++) {
            Matcher put = PUT.matcher(lines[index]);
            Matcher call = CALL.matcher(lines[index]);
            if (put.matches()) {
                put(bus, put.group(1));
            } else if (call.matches()) {
                due(lines[index], answer(bus, call.group(1), call.group(2)), call.group(3));
            } else {
                Check.is("a line of the example", lines[index], "a call with its answer");
            }
        }
    }

    private static void due(String line, String got, String due) {
        if (got.startsWith("throws") || due.startsWith("throws")) {
            Check.is(line, got, due);
        } else {
            Check.is(line, Double.parseDouble(got), Double.parseDouble(due));
        }
    }

    private static String answer(BallotBus bus, String name, String listed) throws Exception {
        String[] words = listed.isEmpty() ? new String[0] : listed.split(", ");
        Method method = named(name);
        Object[] values = new Object[words.length];
        for (int index = 0; index < words.length; index++) {
            values[index] = value(words[index]);
        }
        try {
            return method.invoke(bus, values).toString();
        } catch (InvocationTargetException e) {
            return "throws " + e.getCause().getClass().getSimpleName();
        }
    }

    private static Method named(String name) {
        for (Method method : BallotBus.class.getDeclaredMethods()) {
            if (Modifier.isPublic(method.getModifiers()) && method.getName().equals(name)) {
                return method;
            }
        }
        throw new AssertionError("no method " + name);
    }

    private static Object value(String word) throws Exception {
        if (word.equals("true") || word.equals("false")) {
            return word.equals("true");
        }
        if (word.startsWith("BallotBus.")) {
            return BallotBus.class.getField(word.substring("BallotBus.".length())).getInt(null);
        }
        return Integer.parseInt(word);
    }

    private static void names(String page) {
        for (Method method : BallotBus.class.getDeclaredMethods()) {
            if (Modifier.isPublic(method.getModifiers())) {
                Check.is("README.md names " + method.getName(), page.contains("`" + method.getName() + "`")
                    || page.contains("`" + method.getName() + "()`"), true);
            }
        }
        for (Field field : BallotBus.class.getFields()) {
            Check.is("README.md names " + field.getName(), page.contains("`" + field.getName() + "`"), true);
        }
        String[] files = new File("src/test/java").list();
        Check.is("there are tests", files != null && files.length > 0, true);
        for (int index = 0; files != null && index < files.length; index++) {
            String name = files[index].replace(".java", "");
            Check.is("README.md names " + name, page.contains("`" + name + "`"), true);
        }
    }
}
