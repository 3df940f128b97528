import java.lang.reflect.Constructor;
import java.lang.reflect.Field;
import java.lang.reflect.Method;
import java.lang.reflect.Modifier;
import java.nio.charset.StandardCharsets;
import java.nio.file.Files;
import java.nio.file.Path;
import java.util.Set;
import java.util.TreeSet;
import java.util.regex.Matcher;
import java.util.regex.Pattern;

/** The face of the class, and those rules of LANGUAGE.md that can be seen in the text or by reflection. */
final class SourceTest {
    private static final String[] FACE = {"int sign(int)", "boolean end(int)", "int suit()", "int fault(int)",
        "int fact(int,int)", "int of(int,int)", "int element(int,int,int)", "int bar(int,int,int)",
        "int answer(int,int)", "int withdraw(int)", "int close()", "int find(int,boolean)",
        "int say(int,int,int)", "int add(int,int,int)", "int strike(int)", "int days(int)", "int undo()",
        "boolean keep(int)", "boolean again(int)", "int worlds(int)", "int clash(int,int)",
        "int implied(int,int)", "int lacks(int,int)", "int grown(int,int)", "int issues(int)",
        "int judged(int)", "int tries(int,int)", "int chance(int,int)", "int award(int)", "long meant(int)",
        "int outcomes()", "int outcome(int,int)", "int proofs(int,boolean)", "int proof(int,boolean,int,int)",
        "int duel(int,int)", "int turn(int,int,int)", "int together(int)", "int elect(int)", "int ask()",
        "int asked(int)", "int count(int)"};
    /** Words and marks that the language leaves out. */
    private static final String[] LEFT_OUT = {"\\bthrow\\b", "\\bthrows\\b", "\\btry\\b", "\\bcatch\\b",
        "\\bsynchronized\\b", "\\bassert\\b", "\\bimport\\b", "\\bpackage\\b", "->", "::", "\\bprotected\\b",
        "\\bvar\\b", "\\bdouble\\b", "\\bfloat\\b", "Exact\\(", "\\bequals\\b", "\\bhashCode\\b",
        "\\btoString\\b", "\\bSystem\\b", "\\bThread\\b", "\\bRandom\\b", "\\bObject\\b", "\\binstanceof\\b",
        "while \\(true\\)", "for \\(;;\\)"};

    private final Check check = new Check();
    private String code;

    public static void main(String[] args) throws Exception {
        SourceTest test = new SourceTest();
        String text = Files.readString(Path.of("src/main/java/StruckCounts.java"), StandardCharsets.ISO_8859_1);
        // What stands in comments, texts and signs is no code.
        test.code = text.replaceAll("(?s)/\\*.*?\\*/", "").replaceAll("//[^\n]*", "")
                .replaceAll("\"[^\"\n]*\"", "\"\"").replaceAll("'[^'\n]'", "'.'");
        test.signs(text);
        test.face();
        test.members(StruckCounts.class);
        for (Class<?> inner : StruckCounts.class.getDeclaredClasses()) {
            test.inner(inner);
        }
        test.check.due("classes", StruckCounts.class.getDeclaredClasses().length <= 12 ? 1 : 0, 1);
        test.leftOut();
        test.library();
        test.methods();
        test.noMadeRows();
        test.check.close("SourceTest");
    }

    private void signs(String text) {
        int odd = 0;
        for (int i = 0; i < text.length(); i++) {
            char c = text.charAt(i);
            odd += c == '\n' || c >= 32 && c < 127 ? 0 : 1;
        }
        check.due("signs beyond 32 to 126", odd, 0);
    }

    private void face() {
        Set<String> found = new TreeSet<>();
        for (Method m : StruckCounts.class.getDeclaredMethods()) {
            if (!Modifier.isPrivate(m.getModifiers())) {
                String all = m.toString().replaceFirst(" StruckCounts\\.", " ");
                check.due("is public: " + all, all.startsWith("public ") ? 1 : 0, 1);
                found.add(all.substring("public ".length()));
            }
        }
        check.due("the face: " + found, found.equals(new TreeSet<>(Set.of(FACE))) ? 1 : 0, 1);
        Constructor<?>[] constructors = StruckCounts.class.getDeclaredConstructors();
        check.due("constructors", constructors.length, 1);
        check.due("without parameters", constructors[0].getParameterCount(), 0);
        check.due("public", constructors[0].getModifiers(), Modifier.PUBLIC);
        check.due("public final", StruckCounts.class.getModifiers(), Modifier.PUBLIC | Modifier.FINAL);
        check.due("no other class above", StruckCounts.class.getSuperclass() == Object.class ? 1 : 0, 1);
    }

    private void members(Class<?> type) {
        int fields = 0;
        for (Field f : type.getDeclaredFields()) {
            boolean constant = Modifier.isStatic(f.getModifiers());
            fields += constant ? 0 : 1;
            check.due("final, if static: " + f, !constant || Modifier.isFinal(f.getModifiers()) ? 1 : 0, 1);
            boolean none = type == StruckCounts.class && f.getName().equals("NONE");
            check.due("public, only NONE: " + f, Modifier.isPublic(f.getModifiers()) == none ? 1 : 0, 1);
            check.due("private: " + f, Modifier.isPrivate(f.getModifiers()) || none ? 1 : 0, 1);
        }
        check.due("some twenty fields in " + type + ": " + fields, fields <= 22 ? 1 : 0, 1);
        Set<String> names = new TreeSet<>();
        for (String line : FACE) {
            names.add(line.replaceAll("^\\S+ |\\(.*", ""));
        }
        for (Method m : type.getDeclaredMethods()) {
            boolean named = type != StruckCounts.class || Modifier.isPrivate(m.getModifiers());
            check.due("no public one's name: " + m, named && names.contains(m.getName()) ? 1 : 0, 0);
            check.due("at most seven parameters: " + m, m.getParameterCount() <= 7 ? 1 : 0, 1);
        }
    }

    private void inner(Class<?> type) {
        check.due("private: " + type, Modifier.isPrivate(type.getModifiers()) ? 1 : 0, 1);
        check.due("static: " + type, Modifier.isStatic(type.getModifiers()) ? 1 : 0, 1);
        members(type);
    }

    private void leftOut() {
        for (String what : LEFT_OUT) {
            Matcher m = Pattern.compile(what).matcher(code);
            check.due("the language leaves out " + what, m.find() ? 1 : 0, 0);
        }
    }

    /** Of Integer, Long and Math the language lists functions alone, none of their constants. */
    private void library() {
        Matcher m = Pattern.compile("\\b([A-Z]\\w*[a-z]\\w*)\\.(\\w+)(\\()?").matcher(code);
        while (m.find()) {
            boolean listed = m.group(1).matches("Integer|Long|Math");
            boolean own = m.group(1).matches("Law|Worlds|Tree|Seer");
            check.due("the library has no " + m.group(), own || listed && m.group(3) != null ? 1 : 0, 1);
        }
    }

    /** Methods are short, by the braces of the text as it is laid out. */
    private void methods() {
        String[] lines = code.split("\n");
        int from = -1;
        int depth = 0;
        int at = 0;
        for (int i = 0; i < lines.length; i++) {
            if (from < 0 && lines[i].matches("\\s+(public|private) .*\\) \\{")) {
                from = i;
                at = depth;
            }
            for (char c : lines[i].toCharArray()) {
                depth += c == '{' ? 1 : c == '}' ? -1 : 0;
            }
            if (from >= 0 && depth == at) {
                check.due("sixty lines: " + lines[from].trim(), i - from <= 60 ? 1 : 0, 1);
                from = -1;
            }
        }
        check.due("braces", depth, 0);
    }

    /** Objects are made where fields are, and in constructors alone. */
    private void noMadeRows() {
        for (String line : code.split("\n")) {
            if (line.contains("new ")) {
                boolean field = line.matches("    +private .*");
                boolean filled = line.matches(" +(tables|ahead|kept)\\[i\\] = new \\w+\\(\\);");
                check.due("made with the object: " + line.trim(), field || filled ? 1 : 0, 1);
            }
        }
    }
}
