import java.io.File;
import java.io.IOException;
import java.lang.reflect.InvocationTargetException;
import java.lang.reflect.Method;
import java.lang.reflect.Modifier;
import java.nio.charset.StandardCharsets;
import java.nio.file.Files;
import java.nio.file.Paths;
import java.util.ArrayList;
import java.util.List;
import java.util.Set;
import java.util.TreeSet;
import java.util.regex.Matcher;
import java.util.regex.Pattern;

/** What README.md tells: its calls answer as it says, it names each call and each test, and .ci/run runs them. */
public final class ReadmeTest {
    private static final Pattern CALL = Pattern.compile("x\\.(\\w+)\\(([-0-9, ]*)\\);\\s+// (-?\\d+|true|false)\\b.*");
    private static final Pattern TEXT = Pattern.compile("\"([^\"]*)\"");

    public static void main(String[] args) throws IOException, ReflectiveOperationException {
        String page = read("README.md");
        List<String> blocks = blocksOf(page);
        Check.due("how many blocks", blocks.size(), 2);
        if (blocks.size() == 2) {
            Check.due("put() is as told", plain(read("src/test/java/ReadmeTest.java")).contains(plain(blocks.get(0))), true);
            example(blocks.get(1));
        }
        everyCallIsNamed(page);
        everyTestIsNamed(page);
        whatRunsThem(page);
        Check.finish("ReadmeTest");
    }

    // ---- as README.md has them

    static void put(AndGuest x, String text) {
        for (int k = 0; k < text.length(); k += 20) {
            x.feed(four(text, k), four(text, k + 4), four(text, k + 8), four(text, k + 12), four(text, k + 16));
        }
        x.end(text.length());
    }

    static int four(String text, int from) {
        int sum = 0;
        for (int k = from; k < from + 4; k++) {
            sum = sum << 8 | (k < text.length() ? text.charAt(k) & 255 : ' ');
        }
        return sum;
    }

    // ---- the example

    private static void example(String block) throws ReflectiveOperationException {
        // A line that begins with a blank goes on with the one ahead.
        String[] lines = block.replaceAll("\n +", " ").split("\n");
        Check.due("it begins with a new one: " + lines[0], lines[0].equals("AndGuest x = new AndGuest();"), true);
        AndGuest x = new AndGuest();
        int calls = 0;
        for (int k = 1; k < lines.length; k++) {
            Matcher call = CALL.matcher(lines[k]);
            if (call.matches()) {
                Check.due(lines[k], answerOf(x, call.group(1), call.group(2)).equals(call.group(3)), true);
                calls++;
            } else {
                Check.due("a text is put: " + lines[k], lines[k].startsWith("put(x, \"") && lines[k].endsWith(");"), true);
                put(x, textOf(lines[k]));
            }
        }
        Check.due("some calls", calls > 20, true);
        Check.due("no feed() and no end() was refused", x.status(0), 0);
    }

    private static String textOf(String line) {
        StringBuilder text = new StringBuilder();
        Matcher part = TEXT.matcher(line);
        while (part.find()) {
            text.append(part.group(1));
        }
        return text.toString();
    }

    private static String answerOf(AndGuest x, String name, String list) throws ReflectiveOperationException {
        String[] given = list.isEmpty() ? new String[0] : list.split(", ");
        Class<?>[] sorts = new Class<?>[given.length];
        Object[] numbers = new Object[given.length];
        for (int k = 0; k < given.length; k++) {
            sorts[k] = int.class;
            numbers[k] = Integer.valueOf(given[k]);
        }
        try {
            return String.valueOf(AndGuest.class.getMethod(name, sorts).invoke(x, numbers));
        } catch (InvocationTargetException thrown) {
            return "threw " + thrown.getCause();
        }
    }

    // ---- the lists

    private static void everyCallIsNamed(String page) {
        String list = page.substring(page.indexOf("The calls, by"), page.indexOf("No call throws"));
        for (Method method : AndGuest.class.getDeclaredMethods()) {
            if (Modifier.isPublic(method.getModifiers())) {
                Check.due(method.getName() + "() is named", list.contains("`" + method.getName() + "()`"), true);
            }
        }
    }

    private static void everyTestIsNamed(String page) {
        Set<String> named = new TreeSet<>();
        Matcher name = Pattern.compile("`(\\w+Test)`").matcher(page);
        while (name.find()) {
            named.add(name.group(1));
        }
        Set<String> there = new TreeSet<>();
        String[] files = new File("src/test/java").list();
        for (String file : files == null ? new String[0] : files) {
            if (file.endsWith("Test.java")) {
                there.add(file.replace(".java", ""));
            }
        }
        Check.due("tests named " + named + ", there " + there, named.equals(there), true);
    }

    private static void whatRunsThem(String page) throws IOException {
        Check.due("the script is named", page.contains("\n.ci/run\n"), true);
        Check.due("it can be run", new File(".ci/run").canExecute(), true);
        String script = read(".ci/run");
        for (String told : new String[] {"-Werror", "src/test/java/*.java", "src/test/java/*Test.java", "../shared/tests/*.java"}) {
            Check.due("it has " + told, script.contains(told), true);
        }
    }

    // ---- texts

    private static String read(String file) throws IOException {
        return new String(Files.readAllBytes(Paths.get(file)), StandardCharsets.UTF_8);
    }

    private static List<String> blocksOf(String page) {
        List<String> blocks = new ArrayList<>();
        Matcher block = Pattern.compile("```java\n(.*?)```", Pattern.DOTALL).matcher(page);
        while (block.find()) {
            blocks.add(block.group(1));
        }
        return blocks;
    }

    private static String plain(String text) {
        return text.replaceAll("\\s+", " ").trim();
    }
}
