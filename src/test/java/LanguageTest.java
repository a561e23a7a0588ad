import java.io.IOException;
import java.lang.reflect.Constructor;
import java.lang.reflect.Field;
import java.lang.reflect.Method;
import java.lang.reflect.Modifier;
import java.nio.charset.StandardCharsets;
import java.nio.file.Files;
import java.nio.file.Paths;
import java.util.HashSet;
import java.util.List;
import java.util.Set;
import java.util.TreeSet;
import java.util.regex.Matcher;
import java.util.regex.Pattern;

/** What of ../shared/LANGUAGE.md can be seen from outside: the face, forbidden words, lengths. */
public final class LanguageTest {
    private static final String FACE = "feed end wedding fault has letter guest far odds above answers mean worth would "
            + "offence best safe leave enough order plates ring full seen send answer weeks chance undo seed ask image "
            + "octet on status";

    public static void main(String[] args) throws IOException {
        face();
        List<String> lines = Files.readAllLines(Paths.get("src/main/java/AndGuest.java"), StandardCharsets.ISO_8859_1);
        words(String.join("\n", lines));
        lengths(lines);
        Check.finish("LanguageTest");
    }

    private static void face() {
        Set<String> due = new TreeSet<>(List.of(FACE.split(" ")));
        Set<String> open = new TreeSet<>();
        for (Method method : AndGuest.class.getDeclaredMethods()) {
            if (Modifier.isPublic(method.getModifiers())) {
                open.add(method.getName());
            } else {
                Check.due("private " + method, Modifier.isPrivate(method.getModifiers()), true);
                Check.due("own name of " + method, due.contains(method.getName()), false);
            }
        }
        Check.due("the face", open.equals(due), true);
        Check.due("how many methods", open.size(), 35);
        for (Field field : AndGuest.class.getDeclaredFields()) {
            boolean told = field.getName().equals("NONE") || field.getName().equals("NOTHING");
            Check.due("field " + field, Modifier.isPublic(field.getModifiers()), told);
            Check.due("private field " + field, told || Modifier.isPrivate(field.getModifiers()), true);
        }
        for (Constructor<?> made : AndGuest.class.getDeclaredConstructors()) {
            Check.due("constructor " + made, Modifier.isPublic(made.getModifiers()), true);
        }
        Check.due("final", Modifier.isFinal(AndGuest.class.getModifiers()), true);
        Check.due("some twelve classes", AndGuest.class.getDeclaredClasses().length <= 11, true);
        for (Class<?> inside : AndGuest.class.getDeclaredClasses()) {
            classInside(inside, due);
        }
    }

    private static void classInside(Class<?> inside, Set<String> face) {
        Check.due("static " + inside, Modifier.isStatic(inside.getModifiers()), true);
        Check.due("not public " + inside, Modifier.isPublic(inside.getModifiers()), false);
        int fields = 0;
        for (Field field : inside.getDeclaredFields()) {
            boolean fixed = Modifier.isStatic(field.getModifiers());
            fields += fixed ? 0 : 1;
            Check.due("static final " + field, !fixed || Modifier.isFinal(field.getModifiers()), true);
        }
        Check.due("fields of " + inside, fields <= 20, true);
        for (Method method : inside.getDeclaredMethods()) {
            Check.due("own name of " + method, face.contains(method.getName()), false);
            Check.due("parameters of " + method, method.getParameterCount() <= 7, true);
        }
    }

    private static void words(String source) {
        String code = source.replaceAll("(?s)/\\*.*?\\*/", "").replaceAll("//[^\n]*", "");
        String[] forbidden = {"\\bthrow\\b", "\\btry\\b", "\\bcatch\\b", "\\bsynchronized\\b", "\\bassert\\b", "->", "::",
            "\\bimport\\b", "\\bpackage\\b", "Exact\\b", "\\bdouble\\b", "\\bfloat\\b", "hashCode", "toString", "\\bThread\\b",
            "\" *\\+", "\\+ *\"", "System\\.(?!arraycopy)", "\\bvar\\b", "\\bprotected\\b", "\\bordinal\\b"};
        for (String word : forbidden) {
            Matcher found = Pattern.compile(word).matcher(code);
            Check.due("forbidden " + word, found.find(), false);
        }
        Set<Integer> signs = new HashSet<>();
        source.chars().filter(c -> c > 126 || c < 32 && c != 10).forEach(signs::add);
        Check.due("plain signs", signs.size(), 0);
    }

    private static void lengths(List<String> lines) {
        int from = -1;
        for (int k = 0; k < lines.size(); k++) {
            String line = lines.get(k);
            Check.due("width of line " + (k + 1), line.length() <= 120, true);
            if (line.matches("( {4}| {8})[a-zA-Z].*\\(.*\\) \\{")) {
                from = k;
            } else if (from >= 0 && line.matches("( {4}| {8})}")) {
                Check.due("length of " + lines.get(from), k - from <= 60, true);
                from = -1;
            }
        }
    }
}
