import java.util.ArrayList;
import java.util.List;
import java.util.Random;

/** Texts by a seed: whole suits, questions, and such with something wrong in them. */
final class Suits {
    private static final String[] FACTS = {"a", "b", "c", "d", "e", "f", "g", "hhhhhh"};
    private static final String[] COUNTS = {"p", "q", "r", "s", "tt"};
    private static final String[] ODDMENTS = {"fact", "never", "count", "worth", "arose", "needs",
        "plea", "says", "same", "limit", "of", "!", "&", "|", "(", ")", ",", ";", "0", "1", "6", "7",
        "9", "10", "999", "1000", "zz", "abcdefg", "A", "-", "a", "p", "1 of(", "!!", "((", "\t", "é"};

    private final Random random;

    Suits(Random random) {
        this.random = random;
    }

    private int below(int n) {
        return random.nextInt(n);
    }

    String expr(int facts, int deep) {
        if (facts == 0) {
            return below(2) == 0 ? "a" : "0 of(a)";
        }
        int what = deep == 0 ? 0 : below(9);
        switch (what) {
            case 5:
                return "!" + one(facts, deep);
            case 6:
                return one(facts, deep) + "&" + one(facts, deep);
            case 7:
                return one(facts, deep) + "|" + one(facts, deep);
            case 8: {
                int listed = 1 + below(3) + below(3);
                StringBuilder s = new StringBuilder();
                s.append(below(listed + 2) % 7).append(" of(");
                for (int i = 0; i < listed; i++) {
                    s.append(i > 0 ? "," : "").append(expr(facts, deep - 1));
                }
                return s.append(")").toString();
            }
            default:
                return FACTS[below(facts)];
        }
    }

    private String one(int facts, int deep) {
        String e = expr(facts, deep - 1);
        return e.length() > 1 && below(3) > 0 ? "(" + e + ")" : e;
    }

    /** Most of them are a SUIT; a never may leave no world. */
    String suit() {
        int facts = below(12) == 0 ? 0 : below(4) == 0 ? 8 : 1 + below(7);
        int counts = below(10) == 0 ? 0 : 1 + below(5);
        List<String> lines = new ArrayList<>();
        for (int f = 0; f < facts; f++) {
            lines.add("fact " + FACTS[f] + (below(2) == 0 ? " " + (1 + below(9)) : ""));
        }
        for (int i = below(3); i > 0 && facts > 1; i--) {
            lines.add("never " + FACTS[below(facts)] + "&" + one(facts, 2));
        }
        for (int k = 0; k < counts && facts > 0; k++) {
            addCount(lines, k, facts);
        }
        for (int i = below(3); i > 0 && facts > 0 && counts > 0; i--) {
            lines.add("says " + COUNTS[below(counts)] + (below(3) == 0 ? " !" : " ") + FACTS[below(facts)]);
        }
        for (int i = below(4); i > 0 && facts > 0 && counts > 0; i--) {
            lines.add("plea " + COUNTS[below(counts)] + " " + expr(facts, below(3)));
        }
        for (int i = below(3); i > 0 && counts > 1; i--) {
            lines.add("same " + COUNTS[below(counts)] + " " + COUNTS[below(counts)]);
        }
        if (below(2) == 0) {
            lines.add("limit " + (1 + below(999)));
        }
        StringBuilder text = new StringBuilder();
        for (String line : lines) {
            text.append(line).append(below(6) == 0 ? " ;\n" : ";");
        }
        return text.toString();
    }

    /** Mostly one that needs what it says, and more that follows from it. */
    private void addCount(List<String> lines, int k, int facts) {
        StringBuilder s = new StringBuilder("count " + COUNTS[k] + " worth " + below(1000) + " arose "
                + (below(6) == 0 ? below(1000) : below(300)));
        int story = below(1 << facts);
        int said = 0;
        List<String> says = new ArrayList<>();
        for (int i = below(5) == 0 ? 4 : 1 + below(3); i > 0; i--) {
            int f = below(facts);
            String literal = ((story >> f & 1) != 0 ? "" : "!") + FACTS[f];
            if (below(4) == 0) {
                s.append(" needs ").append(expr(facts, below(3)));
            } else {
                s.append(" needs ").append(literal).append(below(3) == 0 ? "|" + one(facts, 1) : "");
                if ((said >> f & 1) == 0 && below(5) > 0) {
                    said |= 1 << f;
                    says.add("says " + COUNTS[k] + " " + literal);
                }
            }
        }
        lines.add(s.toString());
        lines.addAll(says);
    }

    /** A text with some tokens changed, left out, or told twice. */
    String broken(String text) {
        List<String> parts = new ArrayList<>();
        for (Model.Token t : Model.tokens(text)) {
            parts.add(t.text());
        }
        for (int i = 1 + below(3); i > 0; i--) {
            int at = below(parts.size());
            switch (below(4)) {
                case 0:
                    parts.set(at, ODDMENTS[below(ODDMENTS.length)]);
                    break;
                case 1:
                    parts.add(at, ODDMENTS[below(ODDMENTS.length)]);
                    break;
                case 2:
                    parts.set(at, "");
                    break;
                default:
                    parts.add(at, parts.get(below(parts.size())));
            }
        }
        String joined = String.join(" ", parts);
        return below(6) == 0 ? joined.substring(0, below(joined.length() + 1)) : joined;
    }

    /** Tokens as they come. */
    String soup() {
        StringBuilder s = new StringBuilder();
        for (int i = below(12); i > 0; i--) {
            s.append(ODDMENTS[below(ODDMENTS.length)]).append(below(3) == 0 ? "" : " ");
        }
        return s.toString();
    }
}
