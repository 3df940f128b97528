import java.io.IOException;
import java.lang.reflect.Method;
import java.nio.file.Files;
import java.nio.file.Path;
import java.util.ArrayList;
import java.util.Arrays;
import java.util.LinkedHashMap;
import java.util.List;
import java.util.Map;
import java.util.regex.Matcher;
import java.util.regex.Pattern;

/**
 * The sentences that tests are named by stand in the document, where the tests say; and none that names a
 * boundary is without a test: what of the document is quoted by no test names none.
 */
final class SentencesTest {
    private static final Class<?>[] TESTS = {BoundsOfTextsTest.class, BoundsOfPaperTest.class,
        BoundsOfActsTest.class, BoundsOfTrialTest.class};
    /** How the document tells what is too much, too little, none, the first, or refused. */
    private static final Pattern BOUNDARY = Pattern.compile("NONE|-[1-4]\\b|\\bfalse\\b|\\bempty\\b|\\bat most\\b"
            + "|\\bat least\\b|\\babove\\b|\\bbelow\\b|\\bno such\\b|\\balready\\b|\\bnothing\\b|\\bnone\\b"
            + "|\\bfewest\\b|\\bmost\\b|\\bleast\\b|\\bgreatest\\b|\\bfirst\\b|\\blatest\\b|\\blast\\b|\\balways\\b"
            + "|\\bwithout\\b|\\btoo\\b|\\belse\\b|\\bonly\\b|\\balone\\b|\\bopen\\b|\\bcut\\b|\\bahead of\\b"
            + "|\\b\\d+ to \\d+\\b|\\bof no\\b|\\btill\\b|\\bwhatever\\b|\\beither\\b|\\ball else\\b|\\bother way\\b");

    private final Check check = new Check();
    private final Map<String, String> sections = new LinkedHashMap<>();
    private final Map<String, List<String>> quotes = new LinkedHashMap<>();

    public static void main(String[] args) throws IOException {
        SentencesTest test = new SentencesTest();
        Path document = Path.of("../shared/DOC.md");
        if (!Files.isReadable(document)) {
            System.out.println("SentencesTest: there is no " + document + " here to hold the tests against");
            return;
        }
        test.split(Files.readString(document));
        for (Class<?> tests : TESTS) {
            test.quote(tests);
        }
        test.leftOver();
        test.check.close("SentencesTest");
    }

    /** In one line, and without what a call looks like, which is no sentence. */
    private static String inOneLine(String text) {
        return text.replace("```text", " ").replace("```", " ").replaceAll("\\s+", " ").trim()
                .replaceFirst("^`[^`]*`: ", "");
    }

    /** Sections by their headlines; the terms by their numbers. */
    private void split(String text) {
        Matcher heads = Pattern.compile("(?m)^(?:## ([^:\n]+).*|==== (\\d)\\..*)$").matcher(text);
        String name = "";
        int from = 0;
        while (heads.find()) {
            sections.put(name, inOneLine(text.substring(from, heads.start())));
            name = heads.group(1) != null ? heads.group(1).trim() : "Terms " + heads.group(2);
            from = heads.group(1) != null ? heads.end() : heads.start();
        }
        sections.put(name, inOneLine(text.substring(from)));
    }

    private void quote(Class<?> tests) {
        for (Method method : tests.getDeclaredMethods()) {
            Sentence sentence = method.getAnnotation(Sentence.class);
            if (sentence != null) {
                String section = sections.getOrDefault(sentence.of(), "");
                check.due("quoted by " + method.getName() + ": " + sentence.says(),
                        section.contains(sentence.says()), true);
                quotes.computeIfAbsent(sentence.of(), s -> new ArrayList<>()).add(sentence.says());
            }
        }
    }

    private void leftOver() {
        for (Map.Entry<String, String> section : sections.entrySet()) {
            String rest = section.getValue();
            boolean promise = section.getKey().startsWith("Promise ");
            List<String> said = quotes.getOrDefault(section.getKey(), List.of());
            if (promise) {
                check.due("a test of " + section.getKey(), said.isEmpty(), false);
            }
            if (promise || section.getKey().startsWith("Terms ")) {
                Matcher names = BOUNDARY.matcher(without(rest, said));
                while (names.find()) {
                    check.due(section.getKey() + " names a boundary without a test: " + names.group(), 1, 0);
                }
            }
        }
    }

    private static String without(String text, List<String> said) {
        boolean[] quoted = new boolean[text.length()];
        for (String words : said) {
            for (int at = text.indexOf(words); at >= 0; at = text.indexOf(words, at + 1)) {
                Arrays.fill(quoted, at, at + words.length(), true);
            }
        }
        StringBuilder rest = new StringBuilder();
        for (int i = 0; i < quoted.length; i++) {
            rest.append(quoted[i] ? '.' : text.charAt(i));
        }
        return rest.toString().replaceAll("\\.{2,}", " .. ");
    }
}
