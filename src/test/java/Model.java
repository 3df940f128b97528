import java.util.ArrayDeque;
import java.util.ArrayList;
import java.util.Arrays;
import java.util.Comparator;
import java.util.Deque;
import java.util.HashMap;
import java.util.HashSet;
import java.util.LinkedHashMap;
import java.util.List;
import java.util.Map;
import java.util.Set;
import java.util.TreeMap;

/**
 * The document said over again in the plainest way, without a thought for speed: what ModelTest holds
 * the program against. It shares no code and no idea of how to hold the state with the program.
 */
final class Model {
    private static final Set<String> RESERVED = Set.of("fact", "never", "count", "worth", "arose",
            "needs", "plea", "says", "same", "limit", "of");

    // ---- expressions

    interface Expr {
        boolean holds(Set<Integer> world);

        /** TRUE, FALSE, or null for open. */
        Boolean seen(Map<Integer, Boolean> alleged);
    }

    record Fact(int f) implements Expr {
        public boolean holds(Set<Integer> world) {
            return world.contains(f);
        }

        public Boolean seen(Map<Integer, Boolean> alleged) {
            return alleged.get(f);
        }
    }

    record Not(Expr e) implements Expr {
        public boolean holds(Set<Integer> world) {
            return !e.holds(world);
        }

        public Boolean seen(Map<Integer, Boolean> alleged) {
            Boolean b = e.seen(alleged);
            return b == null ? null : Boolean.valueOf(!b);
        }
    }

    record All(List<Expr> parts) implements Expr {
        public boolean holds(Set<Integer> world) {
            return parts.stream().allMatch(p -> p.holds(world));
        }

        public Boolean seen(Map<Integer, Boolean> alleged) {
            if (parts.stream().anyMatch(p -> Boolean.FALSE.equals(p.seen(alleged)))) {
                return false;
            }
            return parts.stream().allMatch(p -> Boolean.TRUE.equals(p.seen(alleged))) ? true : null;
        }
    }

    record Any(List<Expr> parts) implements Expr {
        public boolean holds(Set<Integer> world) {
            return parts.stream().anyMatch(p -> p.holds(world));
        }

        public Boolean seen(Map<Integer, Boolean> alleged) {
            if (parts.stream().anyMatch(p -> Boolean.TRUE.equals(p.seen(alleged)))) {
                return true;
            }
            return parts.stream().allMatch(p -> Boolean.FALSE.equals(p.seen(alleged))) ? false : null;
        }
    }

    record Several(int least, List<Expr> parts) implements Expr {
        public boolean holds(Set<Integer> world) {
            return parts.stream().filter(p -> p.holds(world)).count() >= least;
        }

        public Boolean seen(Map<Integer, Boolean> alleged) {
            int yes = 0;
            int open = 0;
            for (Expr p : parts) {
                Boolean b = p.seen(alleged);
                if (b == null) {
                    open++;
                } else if (b) {
                    yes++;
                }
            }
            return yes >= least ? Boolean.TRUE : yes + open < least ? Boolean.FALSE : null;
        }
    }

    // ---- the text

    static final class Fault extends RuntimeException {
        final int kind;
        final int place;

        Fault(int kind, int place) {
            this.kind = kind;
            this.place = place;
        }
    }

    /** Kind: w WORD, n NUMBER, a mark itself, e the end, x none. */
    record Token(char kind, String text, int place) {
    }

    static List<Token> tokens(String text) {
        List<Token> list = new ArrayList<>();
        int i = 0;
        while (i < text.length()) {
            char c = text.charAt(i);
            int j = i + 1;
            if (c == ' ' || c == '\n') {
                i++;
                continue;
            }
            char kind = 'x';
            if (c >= 'a' && c <= 'z') {
                while (j < text.length() && text.charAt(j) >= 'a' && text.charAt(j) <= 'z') {
                    j++;
                }
                kind = j - i > 6 ? 'x' : 'w';
            } else if (c >= '0' && c <= '9') {
                while (j < text.length() && text.charAt(j) >= '0' && text.charAt(j) <= '9') {
                    j++;
                }
                kind = j - i > 3 ? 'x' : 'n';
            } else if ("!&|(),;".indexOf(c) >= 0) {
                kind = c;
            }
            list.add(new Token(kind, text.substring(i, j), i));
            i = j;
        }
        list.add(new Token('e', "", text.length()));
        return list;
    }

    static final class Told {
        int worth;
        int arose;
        List<Expr> needs = new ArrayList<>();
        List<Expr> pleas = new ArrayList<>();
        Map<Integer, Boolean> says = new TreeMap<>();
    }

    static final class Law {
        int lines;
        List<String> facts = new ArrayList<>();
        List<Integer> odds = new ArrayList<>();
        List<Expr> nevers = new ArrayList<>();
        List<String> counts = new ArrayList<>();
        List<Told> told = new ArrayList<>();
        Set<List<Integer>> same = new HashSet<>();
        int pleas;
        Integer limit;

        List<Set<Integer>> worlds() {
            List<Set<Integer>> list = new ArrayList<>();
            for (int bits = 0; bits < 1 << facts.size(); bits++) {
                Set<Integer> world = setOf(bits);
                if (nevers.stream().noneMatch(n -> n.holds(world))) {
                    list.add(world);
                }
            }
            return list;
        }
    }

    static Set<Integer> setOf(int bits) {
        Set<Integer> set = new HashSet<>();
        for (int i = 0; i < 31; i++) {
            if ((bits >> i & 1) != 0) {
                set.add(i);
            }
        }
        return set;
    }

    static int bitsOf(Iterable<Integer> set) {
        int bits = 0;
        for (int i : set) {
            bits |= 1 << i;
        }
        return bits;
    }

    static final class Reader {
        final List<Token> tokens;
        final Law law;
        int next;

        Reader(String text, Law law) {
            tokens = tokens(text);
            this.law = law;
        }

        Token now() {
            return tokens.get(Math.min(next, tokens.size() - 1));
        }

        Fault fault(int kind) {
            return new Fault(kind, now().place());
        }

        boolean isWord(String word) {
            return now().kind() == 'w' && now().text().equals(word);
        }

        void word(String word) {
            if (!isWord(word)) {
                throw fault(1);
            }
            next++;
        }

        void mark(char mark) {
            if (now().kind() != mark) {
                throw fault(1);
            }
            next++;
        }

        int number(int least, int most) {
            if (now().kind() != 'n') {
                throw fault(1);
            }
            int value = Integer.parseInt(now().text());
            if (value < least || value > most) {
                throw fault(2);
            }
            next++;
            return value;
        }

        String name() {
            if (now().kind() != 'w' || RESERVED.contains(now().text())) {
                throw fault(1);
            }
            return now().text();
        }

        String newName() {
            String name = name();
            if (law.facts.contains(name) || law.counts.contains(name)) {
                throw fault(3);
            }
            next++;
            return name;
        }

        int known(List<String> names) {
            int i = names.indexOf(name());
            if (i < 0) {
                throw fault(3);
            }
            next++;
            return i;
        }

        void suit() {
            while (now().kind() != 'e') {
                line();
                law.lines++;
            }
        }

        void line() {
            int at = next;
            String word = now().kind() == 'w' ? now().text() : "";
            switch (word) {
                case "fact" -> {
                    if (law.facts.size() == 8) {
                        throw fault(4);
                    }
                    next++;
                    String name = newName();
                    int odds = now().kind() == 'n' ? number(1, 9) : 5;
                    mark(';');
                    law.facts.add(name);
                    law.odds.add(odds);
                }
                case "never" -> {
                    if (law.nevers.size() == 6) {
                        throw fault(4);
                    }
                    next++;
                    law.nevers.add(expr(0));
                    mark(';');
                    if (law.worlds().isEmpty()) {
                        next = at;
                        throw fault(5);
                    }
                }
                case "count" -> count();
                case "plea" -> {
                    if (law.pleas == 6) {
                        throw fault(4);
                    }
                    next++;
                    int k = known(law.counts);
                    law.told.get(k).pleas.add(expr(0));
                    law.pleas++;
                    mark(';');
                }
                case "says" -> {
                    next++;
                    int k = known(law.counts);
                    boolean so = true;
                    if (now().kind() == '!') {
                        so = false;
                        next++;
                    }
                    int f = known(law.facts);
                    if (law.told.get(k).says.containsKey(f)) {
                        next--;
                        throw fault(3);
                    }
                    law.told.get(k).says.put(f, so);
                    mark(';');
                }
                case "same" -> {
                    next++;
                    int a = known(law.counts);
                    int b = known(law.counts);
                    if (a == b || law.same.contains(List.of(a, b)) || law.same.contains(List.of(b, a))) {
                        next--;
                        throw fault(3);
                    }
                    law.same.add(List.of(a, b));
                    mark(';');
                }
                case "limit" -> {
                    if (law.limit != null) {
                        throw fault(3);
                    }
                    next++;
                    law.limit = number(1, 999);
                    mark(';');
                }
                default -> throw fault(1);
            }
        }

        void count() {
            if (law.told.size() == 5) {
                throw fault(4);
            }
            next++;
            String name = newName();
            Told told = new Told();
            word("worth");
            told.worth = number(0, 999);
            word("arose");
            told.arose = number(0, 999);
            do {
                if (told.needs.size() == 4) {
                    throw fault(4);
                }
                word("needs");
                told.needs.add(expr(0));
            } while (isWord("needs"));
            mark(';');
            law.counts.add(name);
            law.told.add(told);
        }

        Expr expr(int open) {
            List<Expr> parts = new ArrayList<>(List.of(all(open)));
            while (now().kind() == '|') {
                next++;
                parts.add(all(open));
            }
            return new Any(parts);
        }

        Expr all(int open) {
            List<Expr> parts = new ArrayList<>(List.of(one(open)));
            while (now().kind() == '&') {
                next++;
                parts.add(one(open));
            }
            return new All(parts);
        }

        Expr one(int open) {
            switch (now().kind()) {
                case '!': {
                    if (open == 5) {
                        throw fault(4);
                    }
                    next++;
                    return new Not(one(open + 1));
                }
                case '(': {
                    if (open == 5) {
                        throw fault(4);
                    }
                    next++;
                    Expr e = expr(open + 1);
                    mark(')');
                    return e;
                }
                case 'n': {
                    int least = number(0, 6);
                    word("of");
                    if (now().kind() == '(' && open == 5) {
                        throw fault(4);
                    }
                    mark('(');
                    List<Expr> parts = new ArrayList<>();
                    parts.add(expr(open + 1));
                    while (now().kind() == ',') {
                        next++;
                        if (parts.size() == 6) {
                            seventh();
                        }
                        parts.add(expr(open + 1));
                    }
                    mark(')');
                    return new Several(least, parts);
                }
                default:
                    return new Fact(known(law.facts));
            }
        }

        void seventh() {
            Token t = now();
            if (t.kind() == 'n') {
                number(0, 6);
                next--;
            } else if (t.kind() != '!' && t.kind() != '(') {
                known(law.facts);
                next--;
            }
            throw fault(4);
        }
    }

    // ---- what acts make

    static final class Count {
        int like;
        int worth;
        int arose;
        int filed;
        boolean struck;
        Map<Integer, Boolean> says = new TreeMap<>();

        Count copy() {
            Count c = new Count();
            c.like = like;
            c.worth = worth;
            c.arose = arose;
            c.filed = filed;
            c.struck = struck;
            c.says = new TreeMap<>(says);
            return c;
        }
    }

    static final class Made {
        int[] how = new int[8];
        Map<Integer, Boolean> known = new TreeMap<>();
        boolean closed;
        List<Count> counts = new ArrayList<>();
        int day;

        Made copy() {
            Made m = new Made();
            m.how = how.clone();
            m.known = new TreeMap<>(known);
            m.closed = closed;
            counts.forEach(c -> m.counts.add(c.copy()));
            m.day = day;
            return m;
        }
    }

    private String text = "";
    private Law law = new Law();
    private List<Set<Integer>> worlds = law.worlds();
    private Made made = new Made();
    private final Deque<Made> ahead = new ArrayDeque<>();
    private final Made[] kept = new Made[2];
    private int fault;
    private int place = -1;
    private long[] asked;

    int sign(int v) {
        if (text.length() + 4 > 480) {
            return -1;
        }
        for (int shift = 24; shift >= 0; shift -= 8) {
            text += (char) (v >>> shift & 255);
        }
        return text.length();
    }

    boolean end(int n) {
        if (n < 0 || n > text.length()) {
            return false;
        }
        text = text.substring(0, n);
        return true;
    }

    int suit() {
        String told = text;
        text = "";
        Law next = new Law();
        try {
            new Reader(told, next).suit();
        } catch (Fault f) {
            fault = f.kind;
            place = f.place;
            return -1;
        }
        fault = 0;
        place = -1;
        law = next;
        worlds = law.worlds();
        made = new Made();
        for (int k = 0; k < law.told.size(); k++) {
            Told t = law.told.get(k);
            Count c = new Count();
            c.like = k;
            c.worth = t.worth;
            c.arose = t.arose;
            c.says = new TreeMap<>(t.says);
            made.counts.add(c);
        }
        ahead.clear();
        Arrays.fill(kept, null);
        asked = null;
        return law.lines;
    }

    int fault(int what) {
        return what == 0 ? fault : what == 1 ? place : -1;
    }

    // ---- worlds and literals

    static boolean agrees(Set<Integer> world, Map<Integer, Boolean> literals) {
        return literals.entrySet().stream().allMatch(l -> world.contains(l.getKey()) == l.getValue());
    }

    List<Set<Integer>> agreeing(Map<Integer, Boolean> literals) {
        return worlds.stream().filter(w -> agrees(w, literals)).toList();
    }

    boolean sure(Expr e, Map<Integer, Boolean> by) {
        return agreeing(by).stream().allMatch(e::holds);
    }

    List<Expr> needs(Count c) {
        return law.told.get(c.like).needs;
    }

    List<Expr> pleas(Count c) {
        return law.told.get(c.like).pleas;
    }

    boolean won(Count c, Set<Integer> world) {
        return needs(c).stream().allMatch(e -> e.holds(world))
                && pleas(c).stream().noneMatch(e -> e.holds(world));
    }

    int back(Count c) {
        int least = c.filed;
        for (Count other : made.counts) {
            if (other.filed < c.filed && !c.says.isEmpty()) {
                long both = c.says.keySet().stream().filter(other.says::containsKey).count();
                if (both * 2 >= c.says.size()) {
                    least = Math.min(least, back(other));
                }
            }
        }
        return least;
    }

    int age(Count c) {
        return c.arose + back(c);
    }

    int limit() {
        return law.limit == null ? 300 : law.limit;
    }

    int failing(Count c) {
        if (c.struck) {
            return 1;
        }
        if (agreeing(c.says).isEmpty()) {
            return 2;
        }
        if (needs(c).stream().anyMatch(e -> !sure(e, c.says))) {
            return 3;
        }
        if (needs(c).stream().anyMatch(e -> left().stream().noneMatch(e::holds))) {
            return 4;
        }
        if (pleas(c).stream().anyMatch(e -> sure(e, c.says) || sure(e, made.known))) {
            return 5;
        }
        return age(c) > limit() ? 6 : 0;
    }

    List<Set<Integer>> left() {
        return agreeing(made.known);
    }

    /** By walking from count to count, each step a line same or a count made like another. */
    Set<Integer> injury(int k) {
        Set<Integer> seen = new HashSet<>(Set.of(k));
        Deque<Integer> walk = new ArrayDeque<>(Set.of(k));
        while (!walk.isEmpty()) {
            int a = walk.pop();
            for (int b = 0; b < made.counts.size(); b++) {
                boolean one = law.same.contains(List.of(a, b)) || law.same.contains(List.of(b, a))
                        || made.counts.get(a).like == made.counts.get(b).like;
                if (one && seen.add(b)) {
                    walk.push(b);
                }
            }
        }
        return seen;
    }

    boolean isFact(int f) {
        return f >= 0 && f < law.facts.size();
    }

    Count count0(int k) {
        return k >= 0 && k < made.counts.size() ? made.counts.get(k) : null;
    }

    // ---- what there is

    int fact(int f, int what) {
        if (!isFact(f)) {
            return -1;
        }
        return switch (what) {
            case 0 -> law.odds.get(f);
            case 1 -> made.how[f];
            case 2 -> made.known.containsKey(f) ? made.known.get(f) ? 1 : 0 : 2;
            case 3 -> {
                int bits = 0;
                for (int k = 0; k < made.counts.size(); k++) {
                    bits |= made.counts.get(k).says.containsKey(f) ? 1 << k : 0;
                }
                yield bits;
            }
            default -> -1;
        };
    }

    static int soBits(Map<Integer, Boolean> literals) {
        return bitsOf(literals.keySet().stream().filter(literals::get).toList());
    }

    int of(int k, int what) {
        Count c = count0(k);
        if (c == null) {
            return -1;
        }
        return switch (what) {
            case 0 -> c.worth;
            case 1 -> c.arose;
            case 2 -> c.filed;
            case 3 -> back(c);
            case 4 -> age(c);
            case 5 -> needs(c).size();
            case 6 -> pleas(c).size();
            case 7 -> bitsOf(c.says.keySet());
            case 8 -> soBits(c.says);
            case 9 -> failing(c);
            case 10 -> injury(k).stream().min(Comparator.naturalOrder()).get();
            default -> -1;
        };
    }

    int element(int k, int i, int what) {
        return shown(k, count0(k) == null ? List.of() : needs(count0(k)), i, what);
    }

    int bar(int k, int i, int what) {
        return shown(k, count0(k) == null ? List.of() : pleas(count0(k)), i, what);
    }

    private int shown(int k, List<Expr> list, int i, int what) {
        if (i < 0 || i >= list.size()) {
            return -1;
        }
        Expr e = list.get(i);
        Count c = count0(k);
        return switch (what) {
            case 0 -> {
                Boolean b = e.seen(c.says);
                yield b == null ? 2 : b ? 1 : 0;
            }
            case 1 -> sure(e, c.says) ? 1 : 0;
            case 2 -> amongLeft(e);
            default -> -1;
        };
    }

    private int amongLeft(Expr e) {
        long in = left().stream().filter(e::holds).count();
        return in == left().size() ? 1 : in == 0 ? 0 : 2;
    }

    // ---- acts

    private void note() {
        ahead.addLast(made.copy());
        if (ahead.size() > 16) {
            ahead.removeFirst();
        }
    }

    private boolean leaves(int f, boolean so) {
        return left().stream().anyMatch(w -> w.contains(f) == so);
    }

    private int answered() {
        return (int) Arrays.stream(made.how).filter(h -> h != 0).count();
    }

    int answer(int f, int how) {
        if (!isFact(f) || how < 0 || how > 3) {
            return -1;
        }
        if (made.closed) {
            return -2;
        }
        if (made.how[f] == 1 || made.how[f] == how && how >= 2) {
            return -3;
        }
        if (how < 2 && !leaves(f, how == 1)) {
            return -4;
        }
        note();
        made.how[f] = Math.max(how, 1);
        if (how < 2) {
            made.known.put(f, how == 1);
        }
        return answered();
    }

    int withdraw(int f) {
        if (!isFact(f)) {
            return -1;
        }
        if (made.closed) {
            return -2;
        }
        if (made.how[f] != 1) {
            return -3;
        }
        note();
        made.how[f] = 0;
        made.known.remove(f);
        return answered();
    }

    int close() {
        if (made.closed) {
            return -2;
        }
        note();
        int silent = 0;
        for (int f = 0; f < law.facts.size(); f++) {
            for (Count c : made.counts) {
                if (made.how[f] == 0 && !c.struck && c.says.containsKey(f)) {
                    if (leaves(f, c.says.get(f))) {
                        made.how[f] = 1;
                        made.known.put(f, c.says.get(f));
                        silent++;
                    } else {
                        made.how[f] = 3;
                    }
                }
            }
        }
        made.closed = true;
        return silent;
    }

    int find(int f, boolean is) {
        if (!isFact(f)) {
            return -1;
        }
        if (!made.closed) {
            return -2;
        }
        if (made.known.containsKey(f)) {
            return -3;
        }
        if (!leaves(f, is)) {
            return -4;
        }
        note();
        made.how[f] = 4;
        made.known.put(f, is);
        return law.facts.size() - made.known.size();
    }

    int say(int k, int f, int how) {
        Count c = count0(k);
        if (c == null || !isFact(f) || how < 0 || how > 2) {
            return -1;
        }
        if (c.struck) {
            return -2;
        }
        Boolean now = c.says.get(f);
        if (how == 2 ? now == null : now != null && now == (how == 1)) {
            return -3;
        }
        if (how < 2 && made.known.containsKey(f) && made.known.get(f) != (how == 1)) {
            return -4;
        }
        note();
        if (how == 2) {
            c.says.remove(f);
        } else {
            c.says.put(f, how == 1);
        }
        return c.says.size();
    }

    int add(int like, int worth, int arose) {
        Count of = count0(like);
        if (of == null || worth < 0 || worth > 999 || arose < 0 || arose > 999) {
            return -1;
        }
        if (made.counts.size() == 8) {
            return -2;
        }
        note();
        Count c = new Count();
        c.like = of.like;
        c.worth = worth;
        c.arose = arose;
        c.filed = made.day;
        made.counts.add(c);
        return made.counts.size() - 1;
    }

    int strike(int k) {
        Count c = count0(k);
        if (c == null) {
            return -1;
        }
        if (c.struck) {
            return -2;
        }
        note();
        c.struck = true;
        return (int) made.counts.stream().filter(o -> !o.struck).count();
    }

    int days(int n) {
        if (n < 1 || n > 999) {
            return -1;
        }
        if (made.day + n > 9999) {
            return -2;
        }
        note();
        made.day += n;
        return made.day;
    }

    int undo() {
        if (ahead.isEmpty()) {
            return -1;
        }
        made = ahead.removeLast();
        return ahead.size();
    }

    boolean keep(int i) {
        if (i < 0 || i > 1) {
            return false;
        }
        kept[i] = made.copy();
        return true;
    }

    boolean again(int i) {
        if (i < 0 || i > 1 || kept[i] == null) {
            return false;
        }
        note();
        made = kept[i].copy();
        return true;
    }

    // ---- on paper

    int worlds(int what) {
        return what == 0 ? worlds.size() : what == 1 ? left().size() : -1;
    }

    int clash(int a, int b) {
        if (count0(a) == null || count0(b) == null) {
            return -1;
        }
        return worlds.stream().anyMatch(w -> agrees(w, count0(a).says) && agrees(w, count0(b).says)) ? 0 : 1;
    }

    int implied(int a, int b) {
        if (count0(a) == null || count0(b) == null) {
            return -1;
        }
        return left().stream().allMatch(w -> !won(count0(a), w) || won(count0(b), w)) ? 1 : 0;
    }

    /** All sets of literals of some facts, by how many, by facts, by the ones as so. */
    static List<Map<Integer, Boolean>> literalSets(Set<Integer> facts) {
        List<int[]> pairs = new ArrayList<>();
        int all = bitsOf(facts);
        for (int mask = 0; mask < 256; mask++) {
            for (int so = 0; so <= mask; so++) {
                if ((mask & ~all) == 0 && (so & ~mask) == 0) {
                    pairs.add(new int[] {mask, so});
                }
            }
        }
        pairs.sort(Comparator.<int[]>comparingInt(p -> Integer.bitCount(p[0]))
                .thenComparingInt(p -> p[0]).thenComparingInt(p -> p[1]));
        List<Map<Integer, Boolean>> list = new ArrayList<>();
        for (int[] p : pairs) {
            Map<Integer, Boolean> literals = new TreeMap<>();
            setOf(p[0]).forEach(f -> literals.put(f, (p[1] >> f & 1) != 0));
            list.add(literals);
        }
        return list;
    }

    int lacks(int k, int what) {
        Count c = count0(k);
        if (c == null || what < 0 || what > 2) {
            return -1;
        }
        Set<Integer> unsaid = setOf((1 << law.facts.size()) - 1);
        unsaid.removeAll(c.says.keySet());
        Map<Integer, Boolean> says = c.says;
        for (Map<Integer, Boolean> more : literalSets(unsaid)) {
            if (more.keySet().stream().anyMatch(
                    f -> made.known.containsKey(f) && made.known.get(f) != more.get(f))) {
                continue;
            }
            c.says = new TreeMap<>(says);
            c.says.putAll(more);
            boolean stands = failing(c) == 0;
            c.says = says;
            if (stands) {
                return what == 0 ? more.size() : what == 1 ? bitsOf(more.keySet()) : soBits(more);
            }
        }
        return -2;
    }

    int grown(int k, int n) {
        if (count0(k) == null || n < 0 || n > 400) {
            return -1;
        }
        java.math.BigInteger worth = java.math.BigInteger.valueOf(count0(k).worth);
        for (int i = 0; i < n; i++) {
            worth = worth.add(worth.divide(java.math.BigInteger.TEN));
        }
        return worth.bitLength() > 31 ? -2 : worth.intValueExact();
    }

    // ---- what is left for trial

    int issues(int k) {
        Count c = count0(k);
        if (c == null) {
            return -1;
        }
        Set<Integer> matter = new HashSet<>();
        for (Set<Integer> a : left()) {
            for (Set<Integer> b : left()) {
                int unlike = bitsOf(a) ^ bitsOf(b);
                if (Integer.bitCount(unlike) == 1 && won(c, a) != won(c, b)) {
                    matter.addAll(setOf(unlike));
                }
            }
        }
        return bitsOf(matter);
    }

    int judged(int k) {
        Count c = count0(k);
        return c == null ? -1 : decided(c, left());
    }

    private int decided(Count c, List<Set<Integer>> among) {
        long in = among.stream().filter(w -> won(c, w)).count();
        return in == among.size() ? 1 : in == 0 ? 0 : 2;
    }

    Set<Integer> unknown() {
        Set<Integer> facts = setOf((1 << law.facts.size()) - 1);
        facts.removeAll(made.known.keySet());
        return facts;
    }

    int tries(int k, int what) {
        Count c = count0(k);
        if (c == null || what < 0 || what > 1) {
            return -1;
        }
        Map<Map<Integer, Boolean>, Integer> memo = new HashMap<>();
        int least = fewest(c, new TreeMap<>(), left(), memo);
        if (what == 0) {
            return least;
        }
        if (least == 0) {
            return -2;
        }
        for (int f : unknown().stream().sorted().toList()) {
            if (1 + worst(c, new TreeMap<>(), left(), f, memo) == least) {
                return f;
            }
        }
        throw new IllegalStateException();
    }

    private int fewest(Count c, Map<Integer, Boolean> tried, List<Set<Integer>> among,
            Map<Map<Integer, Boolean>, Integer> memo) {
        if (decided(c, among) != 2) {
            return 0;
        }
        Integer known = memo.get(tried);
        if (known != null) {
            return known;
        }
        int least = 99;
        for (int f : unknown()) {
            if (!tried.containsKey(f)) {
                least = Math.min(least, 1 + worst(c, tried, among, f, memo));
            }
        }
        memo.put(new TreeMap<>(tried), least);
        return least;
    }

    private int worst(Count c, Map<Integer, Boolean> tried, List<Set<Integer>> among, int f,
            Map<Map<Integer, Boolean>, Integer> memo) {
        int most = 0;
        for (boolean so : new boolean[] {false, true}) {
            List<Set<Integer>> rest = among.stream().filter(w -> w.contains(f) == so).toList();
            if (!rest.isEmpty()) {
                Map<Integer, Boolean> more = new TreeMap<>(tried);
                more.put(f, so);
                most = Math.max(most, fewest(c, more, rest, memo));
            }
        }
        return most;
    }

    long weight(Set<Integer> world) {
        long weight = 1;
        for (int f = 0; f < law.facts.size(); f++) {
            weight *= world.contains(f) ? law.odds.get(f) : 10 - law.odds.get(f);
        }
        return weight;
    }

    static long[] lowest(long upper, long lower) {
        java.math.BigInteger g = java.math.BigInteger.valueOf(upper).gcd(java.math.BigInteger.valueOf(lower));
        return new long[] {upper / g.longValue(), lower / g.longValue()};
    }

    int chance(int k, int what) {
        Count c = count0(k);
        if (c == null || what < 0 || what > 1) {
            return -1;
        }
        long part = left().stream().filter(w -> won(c, w)).mapToLong(this::weight).sum();
        return (int) lowest(part, left().stream().mapToLong(this::weight).sum())[what];
    }

    Set<Integer> wonStanding(Set<Integer> world) {
        Set<Integer> set = new HashSet<>();
        for (int k = 0; k < made.counts.size(); k++) {
            if (failing(made.counts.get(k)) == 0 && won(made.counts.get(k), world)) {
                set.add(k);
            }
        }
        return set;
    }

    int awardOf(Set<Integer> world) {
        Map<Set<Integer>, Integer> paid = new HashMap<>();
        for (int k : wonStanding(world)) {
            paid.merge(injury(k), made.counts.get(k).worth, Math::max);
        }
        return paid.values().stream().mapToInt(i -> i).sum();
    }

    int award(int what) {
        if (what < 0 || what > 2) {
            return -1;
        }
        List<Integer> all = left().stream().map(this::awardOf).toList();
        int most = all.stream().max(Comparator.naturalOrder()).get();
        return switch (what) {
            case 0 -> all.stream().min(Comparator.naturalOrder()).get();
            case 1 -> most;
            default -> bitsOf(left().get(all.indexOf(most)));
        };
    }

    long meant(int what) {
        if (what < 0 || what > 1) {
            return -1;
        }
        long sum = left().stream().mapToLong(w -> weight(w) * awardOf(w)).sum();
        return lowest(sum, left().stream().mapToLong(this::weight).sum())[what];
    }

    private Map<Set<Integer>, List<Integer>> outcomeMap() {
        Map<Set<Integer>, List<Integer>> map = new LinkedHashMap<>();
        for (Set<Integer> w : left()) {
            map.computeIfAbsent(wonStanding(w), s -> new ArrayList<>()).add(bitsOf(w));
        }
        return map;
    }

    int outcomes() {
        return outcomeMap().size();
    }

    int outcome(int i, int what) {
        Map<Set<Integer>, List<Integer>> map = outcomeMap();
        if (i < 0 || i >= map.size()) {
            return -1;
        }
        Map.Entry<Set<Integer>, List<Integer>> entry = new ArrayList<>(map.entrySet()).get(i);
        return switch (what) {
            case 0 -> bitsOf(entry.getKey());
            case 1 -> entry.getValue().size();
            case 2 -> entry.getValue().get(0);
            default -> -1;
        };
    }

    private boolean proves(Count c, Map<Integer, Boolean> literals, boolean won) {
        List<Set<Integer>> among = left().stream().filter(w -> agrees(w, literals)).toList();
        return !among.isEmpty() && among.stream().allMatch(w -> won(c, w) == won);
    }

    private List<Map<Integer, Boolean>> proofList(Count c, boolean won) {
        return literalSets(unknown()).stream().filter(l -> proves(c, l, won)
                && l.keySet().stream().noneMatch(f -> {
                    Map<Integer, Boolean> rest = new TreeMap<>(l);
                    rest.remove(f);
                    return proves(c, rest, won);
                })).toList();
    }

    int proofs(int k, boolean won) {
        return count0(k) == null ? -1 : proofList(count0(k), won).size();
    }

    int proof(int k, boolean won, int i, int what) {
        if (count0(k) == null || i < 0 || what < 0 || what > 1) {
            return -1;
        }
        List<Map<Integer, Boolean>> list = proofList(count0(k), won);
        if (i >= list.size()) {
            return -1;
        }
        return what == 0 ? bitsOf(list.get(i).keySet()) : soBits(list.get(i));
    }

    int duel(int k, int first) {
        if (count0(k) == null || first < 0 || first > 1) {
            return -1;
        }
        return pleaderWins(count0(k), first == 0, new TreeMap<>(), left(), new HashMap<>()) ? 1 : 0;
    }

    private boolean pleaderWins(Count c, boolean pleaderMoves, Map<Integer, Boolean> taken,
            List<Set<Integer>> among, Map<Map<Integer, Boolean>, Boolean> memo) {
        if (taken.size() == unknown().size()) {
            return won(c, among.get(0));
        }
        Boolean known = memo.get(taken);
        if (known != null) {
            return known;
        }
        boolean wins = !pleaderMoves;
        for (int f : unknown()) {
            for (boolean so : new boolean[] {false, true}) {
                Boolean then = taken.containsKey(f) ? null
                        : afterTurn(c, pleaderMoves, taken, among, f, so, memo);
                if (then != null && then == pleaderMoves) {
                    wins = pleaderMoves;
                }
            }
        }
        memo.put(new TreeMap<>(taken), wins);
        return wins;
    }

    /** Who wins behind this turn; null, if no world would be left. */
    private Boolean afterTurn(Count c, boolean pleaderMoves, Map<Integer, Boolean> taken,
            List<Set<Integer>> among, int f, boolean so, Map<Map<Integer, Boolean>, Boolean> memo) {
        List<Set<Integer>> rest = among.stream().filter(w -> w.contains(f) == so).toList();
        if (rest.isEmpty()) {
            return null;
        }
        Map<Integer, Boolean> more = new TreeMap<>(taken);
        more.put(f, so);
        return pleaderWins(c, !pleaderMoves, more, rest, memo);
    }

    int turn(int k, int first, int what) {
        if (count0(k) == null || first < 0 || first > 1 || what < 0 || what > 1) {
            return -1;
        }
        Map<Map<Integer, Boolean>, Boolean> memo = new HashMap<>();
        for (int f : unknown().stream().sorted().toList()) {
            for (boolean so : new boolean[] {false, true}) {
                Boolean then = afterTurn(count0(k), first == 0, new TreeMap<>(), left(), f, so, memo);
                if (then != null && then == (first == 0)) {
                    return what == 0 ? f : so ? 1 : 0;
                }
            }
        }
        return -2;
    }

    int together(int set) {
        if (set < 0 || set >= 1 << made.counts.size()) {
            return -1;
        }
        return left().stream().anyMatch(w -> setOf(set).stream().allMatch(k -> won(count0(k), w))) ? 1 : 0;
    }

    int elect(int what) {
        if (what < 0 || what > 1) {
            return -1;
        }
        int best = outcomeMap().keySet().stream().map(Model::bitsOf)
                .min(Comparator.<Integer>comparingInt(s -> -Integer.bitCount(s))
                        .thenComparingInt(s -> s)).get();
        return what == 0 ? Integer.bitCount(best) : best;
    }

    int ask() {
        String told = text;
        text = "";
        Expr e;
        try {
            Reader reader = new Reader(told, law);
            e = reader.expr(0);
            reader.mark('e');
        } catch (Fault f) {
            fault = f.kind;
            place = f.place;
            return -1;
        }
        fault = 0;
        place = -1;
        long part = left().stream().filter(e::holds).mapToLong(this::weight).sum();
        asked = lowest(part, left().stream().mapToLong(this::weight).sum());
        return amongLeft(e);
    }

    int asked(int what) {
        return what < 0 || what > 1 || asked == null ? -1 : (int) asked[what];
    }

    int count(int what) {
        return switch (what) {
            case 0 -> law.lines;
            case 1 -> law.facts.size();
            case 2 -> made.counts.size();
            case 3 -> (int) made.counts.stream().filter(c -> failing(c) == 0).count();
            case 4 -> made.day;
            case 5 -> made.closed ? 1 : 0;
            case 6 -> made.known.size();
            case 7 -> ahead.size();
            case 8 -> text.length();
            case 9 -> limit();
            default -> -1;
        };
    }
}
