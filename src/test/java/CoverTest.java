import java.io.IOException;
import java.lang.reflect.Method;
import java.nio.charset.StandardCharsets;
import java.nio.file.Files;
import java.nio.file.Paths;
import java.util.ArrayList;
import java.util.LinkedHashMap;
import java.util.List;
import java.util.Map;

/** What the tests of edges say stands in the document; and each of its sentences has one of them at least. */
public final class CoverTest {
    private static final String[] TERMS = {"I", "II", "III", "IV"};
    private static final int PROMISES = 36;
    private static final Class<?>[] TESTS = {WeddingTextTest.class, StandingTest.class, ChoicesTest.class,
        QuestionTest.class, PromiseEdgeTest.class};

    public static void main(String[] args) throws IOException {
        String document = new String(Files.readAllBytes(Paths.get("../shared/DOC.md")), StandardCharsets.UTF_8);
        Map<String, String> places = placesOf(document);
        Map<String, List<String>> said = new LinkedHashMap<>();
        for (Class<?> tests : TESTS) {
            for (Method method : Edges.testsOf(tests)) {
                look(method, places, said);
            }
        }
        for (String place : places.keySet()) {
            if (!place.equals("face")) {
                eachSentence(place, places.get(place), said.getOrDefault(place, List.of()));
            }
        }
        Check.due("how many places", places.size(), 1 + TERMS.length + PROMISES);
        Check.finish("CoverTest");
    }

    private static void look(Method method, Map<String, String> places, Map<String, List<String>> said) {
        String words = method.getAnnotation(Says.class).value();
        int colon = words.indexOf(": ");
        String place = words.substring(0, Math.max(0, colon));
        String quote = plain(words.substring(colon + 1));
        Check.due(method.getName() + " says what stands there: " + words,
                places.containsKey(place) && places.get(place).contains(quote), true);
        said.computeIfAbsent(place, p -> new ArrayList<>()).add(quote);
    }

    private static void eachSentence(String place, String text, List<String> quotes) {
        for (String sentence : text.split("(?<=[^.]\\.\\)?)\\s+")) {
            boolean found = false;
            for (String quote : quotes) {
                // A quote may run over several sentences.
                found |= sentence.contains(quote) || quote.contains(sentence);
            }
            Check.due("a test of, " + place + ": " + sentence, found, true);
        }
    }

    private static String plain(String text) {
        return text.replace("`", "").replaceAll("\\s+", " ").trim();
    }

    private static Map<String, String> placesOf(String document) {
        Map<String, String> places = new LinkedHashMap<>();
        String constants = between(document, "The constants:", "Ahead of the calls");
        places.put("face", plain(constants));
        String terms = between(document, "## Terms", "The constants:").replace("```text", "").replace("```", "");
        for (int k = 0; k < TERMS.length; k++) {
            String next = k + 1 < TERMS.length ? "\n" + TERMS[k + 1] + ". " : null;
            String part = between(terms, "\n" + TERMS[k] + ". ", next);
            places.put(TERMS[k], plain(part.substring(part.indexOf(". ") + 2)));
        }
        for (int n = 1; n <= PROMISES; n++) {
            String part = between(document, "## Promise " + n + ":", "\n## ");
            int from = part.indexOf("`: ");
            places.put(String.valueOf(n), plain(part.substring(from + 3)));
        }
        return places;
    }

    /** From the first one on, ahead of the next one behind it (null: to the end). */
    private static String between(String text, String from, String to) {
        int start = text.indexOf(from);
        int end = to == null ? text.length() : text.indexOf(to, start + from.length());
        Check.due("there is " + from, start >= 0 && end > start, true);
        return start >= 0 && end > start ? text.substring(start, end) : "";
    }
}
