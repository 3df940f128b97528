import java.io.IOException;
import java.nio.file.Files;
import java.nio.file.Path;
import java.util.List;
import java.util.regex.Matcher;
import java.util.regex.Pattern;

/** README.md names every call of the class, and what it shows is what the class answers. */
final class ReadmeTest {
    private final Check check = new Check();
    private final String page;
    /** Where the example is read on. */
    private int at;

    private ReadmeTest(String page) {
        this.page = page;
    }

    public static void main(String[] args) throws IOException {
        ReadmeTest test = new ReadmeTest(Files.readString(Path.of("README.md")));
        test.calls(Files.readString(Path.of("src/main/java/StruckCounts.java")));
        test.example();
        test.lines();
        test.check.close("ReadmeTest");
    }

    /** A row of a table for each call, with its parameters as the class names them. */
    private void calls(String program) {
        Matcher m = Pattern.compile("(?m)^    public \\w+ (\\w+)\\(([^)]*)\\) \\{").matcher(program);
        int calls = 0;
        while (m.find()) {
            String call = m.group(1) + "(" + m.group(2).replaceAll("\\w+ (\\w+)", "$1") + ")";
            check.due("README.md has a row of " + call, page.contains("\n| `" + call + "` |"), true);
            calls++;
        }
        check.due("calls", calls, 41);
    }

    /** The next line of the example: a call, and the number that it answers ahead of what that means. */
    private void shows(String call, long answer) {
        Matcher m = Pattern.compile("(?m)^x\\.(\\S.*?);\\s+// (-?\\d+)").matcher(page);
        boolean there = m.find(at);
        check.due("README.md shows " + call + ", not " + (there ? m.group(1) : "nothing"),
                there && m.group(1).equals(call), true);
        check.due(call + " in README.md", there ? Long.parseLong(m.group(2)) : Long.MIN_VALUE, answer);
        at = there ? m.end() : page.length();
    }

    /** The next text that the example sends. */
    private String text() {
        Matcher m = Pattern.compile("(?m)^send\\(x, \"(.*)\"\\);$").matcher(page);
        boolean there = m.find(at);
        check.due("README.md sends a text", there, true);
        at = there ? m.end() : page.length();
        return there ? m.group(1) : "";
    }

    private void example() {
        StruckCounts x = new StruckCounts();
        Check.text(x, text());
        shows("suit()", x.suit());
        shows("of(0, 9)", x.of(0, 9));
        shows("judged(0)", x.judged(0));
        shows("chance(0, 0)", x.chance(0, 0));
        shows("chance(0, 1)", x.chance(0, 1));
        shows("answer(0, 1)", x.answer(0, 1));
        shows("tries(0, 1)", x.tries(0, 1));
        Check.text(x, text());
        shows("ask()", x.ask());
        shows("asked(0)", x.asked(0));
        shows("asked(1)", x.asked(1));
        shows("undo()", x.undo());
        Check.text(x, text());
        shows("suit()", x.suit());
        shows("fault(0)", x.fault(0));
        shows("fault(1)", x.fault(1));
        shows("count(1)", x.count(1));
        check.due("README.md shows no more", page.indexOf("\nx.", at) < 0, true);
    }

    /** The lines of the table, one behind the other, are a SUIT, if the names that they ask are told. */
    private void lines() {
        StringBuilder text = new StringBuilder("fact paid; fact late; ");
        Matcher rows = Pattern.compile("(?m)^\\| (`[a-z]+ .*;`) \\|").matcher(page);
        int kinds = 0;
        while (rows.find()) {
            String row = rows.group(1).replace("`", "");
            text.append(row).append(' ');
            // The table has one count alone, and same asks for two.
            if (row.startsWith("count ")) {
                text.append(row.replace("debt", "loan")).append(' ');
            }
            kinds++;
        }
        check.due("kinds of lines in README.md", kinds, 7);
        StruckCounts x = check.right(11, text.toString());
        for (String question : List.of("2 of (deal, paid, late)", "deal & !paid")) {
            check.due(question, Check.ask(x, question), 2);
            check.due("README.md has " + question, page.contains(question), true);
        }
    }
}
