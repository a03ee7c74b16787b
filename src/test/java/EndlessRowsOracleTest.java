import java.math.BigInteger;
import java.util.ArrayDeque;
import java.util.ArrayList;
import java.util.Arrays;
import java.util.HashMap;
import java.util.LinkedHashMap;
import java.util.List;
import java.util.Map;
import java.util.Random;
import java.util.TreeSet;

/**
 * Random runs of calls, each also answered by an oracle that works by other means: texts are judged by the
 * document's grammar itself (Earley), machines are read lowest digit first and turned around, sets are sets,
 * counts are big numbers. A run's calls are printed when an answer is not the oracle's.
 */
public final class EndlessRowsOracleTest {
    private static final long TOP = 1L << 62;
    private static int wrong = 0;
    private static int[] seen = new int[16];

    public static void main(String[] args) {
        int runs = args.length > 0 ? Integer.parseInt(args[0]) : 400;
        long first = args.length > 1 ? Long.parseLong(args[1]) : 1;
        for (long seed = first; seed < first + runs && wrong < 5; seed++) {
            new Run(seed).go();
        }
        System.out.println("oracle: " + runs + " runs, questions without a fault " + seen[0] + ", faults "
            + seen[1] + "/" + seen[2] + "/" + seen[3] + ", spent " + seen[4] + ", refused " + seen[5]
            + ", numbers above the top " + seen[6]);
        if (runs >= 300) {
            for (int i = 0; i < 7; i++) {
                if (seen[i] == 0) {
                    wrong++;
                    System.out.println("nothing seen of sort " + i);
                }
            }
        }
        System.exit(wrong > 0 ? 1 : 0);
    }

    // ---------------------------------------------------------------- machines

    /** A machine with marks, states numbered as they are met; fan rows of digits. */
    private static final class M {
        final List<int[]> moves = new ArrayList<>();
        final List<Integer> marks = new ArrayList<>();

        int states() {
            return marks.size();
        }

        int fan() {
            return moves.get(0).length;
        }

        boolean same(M other) {
            if (!marks.equals(other.marks)) {
                return false;
            }
            for (int i = 0; i < states(); i++) {
                if (!Arrays.equals(moves.get(i), other.moves.get(i))) {
                    return false;
                }
            }
            return true;
        }
    }

    /** A machine told by its first state, its steps and its marks, whatever the states are. */
    private interface Raw<S> {
        S first();
        S after(S state, int row);
        int mark(S state);
    }

    /** States as they are met; null when there are more than the bound. */
    private static <S> M explore(Raw<S> raw, int fan, int bound) {
        Map<S, Integer> ids = new LinkedHashMap<>();
        List<S> all = new ArrayList<>();
        M m = new M();
        ids.put(raw.first(), 0);
        all.add(raw.first());
        for (int i = 0; i < all.size(); i++) {
            int[] moves = new int[fan];
            for (int row = 0; row < fan; row++) {
                S to = raw.after(all.get(i), row);
                Integer id = ids.get(to);
                if (id == null) {
                    id = all.size();
                    ids.put(to, id);
                    all.add(to);
                    if (all.size() > bound) {
                        return null;
                    }
                }
                moves[row] = id;
            }
            m.moves.add(moves);
            m.marks.add(raw.mark(all.get(i)));
        }
        return m;
    }

    /** Turns a machine around: what it reads last comes first. The outcome is the least machine that does so. */
    private static M turned(M m, int bound) {
        return explore(new Raw<List<Integer>>() {
            public List<Integer> first() {
                return new ArrayList<>(m.marks);
            }

            public List<Integer> after(List<Integer> state, int row) {
                List<Integer> next = new ArrayList<>();
                for (int[] moves : m.moves) {
                    next.add(state.get(moves[row]));
                }
                return next;
            }

            public int mark(List<Integer> state) {
                return state.get(0);
            }
        }, m.fan(), bound);
    }

    /** The least machine, by signatures of states, for what would be too large turned around. */
    private static M least(M m) {
        List<Integer> classes = new ArrayList<>(m.marks);
        int before = -1;
        while (true) {
            Map<List<Integer>, Integer> names = new HashMap<>();
            List<Integer> next = new ArrayList<>();
            for (int i = 0; i < m.states(); i++) {
                List<Integer> signature = new ArrayList<>();
                signature.add(classes.get(i));
                for (int to : m.moves.get(i)) {
                    signature.add(classes.get(to));
                }
                names.putIfAbsent(signature, names.size());
                next.add(names.get(signature));
            }
            classes = next;
            if (names.size() == before) {
                break;
            }
            before = names.size();
        }
        List<Integer> found = classes;
        int[] one = new int[before];
        for (int i = 0; i < m.states(); i++) {
            one[found.get(i)] = i;
        }
        return explore(new Raw<Integer>() {
            public Integer first() {
                return found.get(0);
            }

            public Integer after(Integer state, int row) {
                return found.get(m.moves.get(one[state])[row]);
            }

            public int mark(Integer state) {
                return m.marks.get(one[state]);
            }
        }, m.fan(), Integer.MAX_VALUE);
    }

    private static int digit(int row, int base, int names, int i) {
        int rest = row;
        for (int k = names - 1; k > i; k--) {
            rest /= base;
        }
        return rest % base;
    }

    private static int pow(int base, int n) {
        return n == 0 ? 1 : base * pow(base, n - 1);
    }

    private static int rowOf(int row, int base, List<Integer> all, List<Integer> some) {
        int told = 0;
        for (int name : some) {
            told = told * base + digit(row, base, all.size(), all.indexOf(name));
        }
        return told;
    }

    private static List<Integer> union(List<Integer> a, List<Integer> b) {
        TreeSet<Integer> both = new TreeSet<>(a);
        both.addAll(b);
        return new ArrayList<>(both);
    }

    private interface Way {
        int of(int a, int b);
    }

    private static M joined(M a, List<Integer> namesA, M b, List<Integer> namesB, int base, Way way) {
        List<Integer> all = union(namesA, namesB);
        M raw = explore(new Raw<List<Integer>>() {
            public List<Integer> first() {
                return List.of(0, 0);
            }

            public List<Integer> after(List<Integer> s, int row) {
                return List.of(a.moves.get(s.get(0))[rowOf(row, base, all, namesA)],
                    b.moves.get(s.get(1))[rowOf(row, base, all, namesB)]);
            }

            public int mark(List<Integer> s) {
                return way.of(a.marks.get(s.get(0)), b.marks.get(s.get(1)));
            }
        }, pow(base, all.size()), Integer.MAX_VALUE);
        return least(raw);
    }

    private static int reads(M m, int base, BigInteger... numbers) {
        int length = 1;
        for (BigInteger number : numbers) {
            length = Math.max(length, number.toString(base).length());
        }
        int state = 0;
        for (int i = 0; i < length; i++) {
            int row = 0;
            for (BigInteger number : numbers) {
                String text = "0".repeat(length - number.toString(base).length()) + number.toString(base);
                row = row * base + text.charAt(i) - '0';
            }
            state = m.moves.get(state)[row];
        }
        return m.marks.get(state);
    }

    // ---------------------------------------------------------------- counting with big numbers

    /** How many numbers up to a bound (with it) are taken. */
    private static BigInteger upTo(M m, int base, BigInteger bound) {
        if (bound.signum() < 0) {
            return BigInteger.ZERO;
        }
        String text = bound.toString(base);
        BigInteger[] free = new BigInteger[m.states()];
        Arrays.fill(free, BigInteger.ZERO);
        int tight = 0;
        for (int i = 0; i < text.length(); i++) {
            BigInteger[] next = new BigInteger[m.states()];
            Arrays.fill(next, BigInteger.ZERO);
            int own = text.charAt(i) - '0';
            for (int d = 0; d < base; d++) {
                for (int s = 0; s < m.states(); s++) {
                    int to = m.moves.get(s)[d];
                    next[to] = next[to].add(free[s]);
                }
                if (d < own) {
                    int to = m.moves.get(tight)[d];
                    next[to] = next[to].add(BigInteger.ONE);
                }
            }
            tight = m.moves.get(tight)[own];
            free = next;
        }
        BigInteger sum = m.marks.get(tight) == 1 ? BigInteger.ONE : BigInteger.ZERO;
        for (int s = 0; s < m.states(); s++) {
            if (m.marks.get(s) == 1) {
                sum = sum.add(free[s]);
            }
        }
        return sum;
    }

    private static long least(M m, int base, long above) {
        BigInteger low = BigInteger.valueOf(above);
        BigInteger far = BigInteger.valueOf(base).pow(220);
        BigInteger ahead = upTo(m, base, low);
        if (upTo(m, base, far).equals(ahead)) {
            return -1;
        }
        BigInteger high = far;
        while (high.subtract(low).compareTo(BigInteger.ONE) > 0) {
            BigInteger mid = high.add(low).shiftRight(1);
            if (upTo(m, base, mid).equals(ahead)) {
                low = mid;
            } else {
                high = mid;
            }
        }
        if (high.compareTo(BigInteger.valueOf(TOP)) > 0) {
            seen[6]++;
            return -3;
        }
        return high.longValue();
    }

    private static long many(M m, int base) {
        BigInteger some = upTo(m, base, BigInteger.valueOf(base).pow(120));
        if (!some.equals(upTo(m, base, BigInteger.valueOf(base).pow(220)))) {
            return -1;
        }
        if (some.compareTo(BigInteger.valueOf(TOP)) > 0) {
            seen[6]++;
            return -3;
        }
        return some.longValue();
    }

    // ---------------------------------------------------------------- texts

    private static final String[] KEYS = {"all", "is", "not", "and", "or", "so"};

    private static final class Tok {
        final String sort;
        final int place;
        final int worth;

        Tok(String sort, int place, int worth) {
            this.sort = sort;
            this.place = place;
            this.worth = worth;
        }
    }

    private static List<Tok> cut(String text) {
        List<Tok> toks = new ArrayList<>();
        java.util.regex.Matcher m = java.util.regex.Pattern
            .compile(" |([0-9]+)|(?<![a-z])r([0-9])|([a-z]+)|<=|[\\[\\]()+=<]|[\\s\\S]").matcher(text);
        int at = 0;
        while (at < text.length() && m.find(at)) {
            String t = m.group();
            if (m.group(1) != null) {
                toks.add(t.length() > 2 ? new Tok("BAD", at, 0) : new Tok("NUM", at, Integer.parseInt(t)));
            } else if (m.group(2) != null) {
                toks.add(new Tok("ROW", at, Integer.parseInt(m.group(2))));
            } else if (m.group(3) != null) {
                if (Arrays.asList(KEYS).contains(t)) {
                    toks.add(new Tok(t, at, 0));
                } else if (t.length() == 1 && t.charAt(0) <= 'h') {
                    toks.add(new Tok("NAME", at, t.charAt(0) - 'a'));
                } else {
                    toks.add(new Tok("BAD", at, 0));
                }
            } else if ("[]()+=<".contains(t) || t.equals("<=")) {
                toks.add(new Tok(t, at, 0));
            } else if (!t.equals(" ")) {
                toks.add(new Tok("BAD", at, 0));
            }
            at = m.end();
        }
        toks.add(new Tok("END", text.length(), 0));
        return toks;
    }

    /** The document's grammar, a NOT in n others being N<n>; N10 is none. */
    private static Map<String, List<String[]>> grammar() {
        Map<String, List<String[]>> g = new HashMap<>();
        rule(g, "S", "F0 END");
        for (int n = 0; n < 10; n++) {
            rule(g, "F" + n, "O" + n, "O" + n + " so F" + n);
            rule(g, "O" + n, "A" + n, "O" + n + " or A" + n);
            rule(g, "A" + n, "N" + n, "A" + n + " and N" + n);
            int in = n + 1;
            if (in < 10) {
                rule(g, "N" + n, "not N" + in, "all NAME N" + in, "is NAME N" + in, "( F" + in + " )", "ATOM");
            } else {
                rule(g, "N" + n, "not NONE", "all NAME NONE", "is NAME NONE", "( NONE )", "ATOM");
            }
        }
        rule(g, "ATOM", "SUM = SUM", "SUM < SUM", "SUM <= SUM", "ROW [ INDEX ] = NUM", "ROW [ INDEX ] = ROW [ INDEX ]");
        rule(g, "SUM", "TERM", "SUM + TERM");
        rule(g, "TERM", "NUM", "NAME");
        rule(g, "INDEX", "NAME", "NAME + NAME", "NAME + NUM");
        rule(g, "NONE", "NEVER");
        return g;
    }

    private static void rule(Map<String, List<String[]>> g, String head, String... bodies) {
        for (String body : bodies) {
            g.computeIfAbsent(head, k -> new ArrayList<>()).add(body.split(" "));
        }
    }

    private static final Map<String, List<String[]>> GRAMMAR = grammar();

    private record Item(String head, String[] body, int dot, int from) {
        String key() {
            return head + "|" + String.join(" ", body) + "|" + dot + "|" + from;
        }
    }

    /** The order of the first token with which no text of the grammar goes on; -1: the whole is one. */
    private static int brokenToken(List<Tok> toks) {
        List<Map<String, Item>> sets = new ArrayList<>();
        Map<String, Item> first = new LinkedHashMap<>();
        for (String[] body : GRAMMAR.get("S")) {
            Item item = new Item("S", body, 0, 0);
            first.put(item.key(), item);
        }
        sets.add(first);
        for (int i = 0; i < toks.size(); i++) {
            Map<String, Item> set = sets.get(i);
            ArrayDeque<Item> todo = new ArrayDeque<>(set.values());
            Map<String, Item> next = new LinkedHashMap<>();
            while (!todo.isEmpty()) {
                Item item = todo.poll();
                if (item.dot == item.body.length) {
                    for (Item back : new ArrayList<>(sets.get(item.from).values())) {
                        if (back.dot < back.body.length && back.body[back.dot].equals(item.head)) {
                            put(set, todo, new Item(back.head, back.body, back.dot + 1, back.from));
                        }
                    }
                } else if (GRAMMAR.containsKey(item.body[item.dot])) {
                    for (String[] body : GRAMMAR.get(item.body[item.dot])) {
                        put(set, todo, new Item(item.body[item.dot], body, 0, i));
                    }
                } else if (item.body[item.dot].equals(toks.get(i).sort)) {
                    Item on = new Item(item.head, item.body, item.dot + 1, item.from);
                    next.put(on.key(), on);
                }
            }
            if (next.isEmpty()) {
                return i;
            }
            sets.add(next);
        }
        return -1;
    }

    private static void put(Map<String, Item> set, ArrayDeque<Item> todo, Item item) {
        if (set.putIfAbsent(item.key(), item) == null) {
            todo.add(item);
        }
    }

    /** A part of a text that has no fault of kind 1. */
    private static final class P {
        String form;
        int place;
        List<P> inner = new ArrayList<>();
        int name = -1;
        List<Integer> names = new ArrayList<>();
        List<Tok> toks;
        int mid;
        M m;
    }

    private static int split(List<Tok> toks, String key, boolean last) {
        int depth = 0;
        int found = -1;
        for (int i = 0; i < toks.size(); i++) {
            String sort = toks.get(i).sort;
            if (sort.equals("(")) {
                depth++;
            } else if (sort.equals(")")) {
                depth--;
            } else if (depth == 0 && sort.equals(key) && (last || found < 0)) {
                found = i;
            }
        }
        return found;
    }

    private static P tree(List<Tok> toks, List<P> order) {
        P p = new P();
        for (String key : new String[] {"so", "or", "and"}) {
            int at = split(toks, key, !key.equals("so"));
            if (at >= 0) {
                p.form = key;
                p.place = toks.get(at).place;
                p.inner.add(tree(toks.subList(0, at), order));
                p.inner.add(tree(toks.subList(at + 1, toks.size()), order));
                p.names = union(p.inner.get(0).names, p.inner.get(1).names);
                order.add(p);
                return p;
            }
        }
        Tok head = toks.get(0);
        if (head.sort.equals("(")) {
            return tree(toks.subList(1, toks.size() - 1), order);
        }
        p.place = head.place;
        p.form = head.sort;
        if (head.sort.equals("not")) {
            p.inner.add(tree(toks.subList(1, toks.size()), order));
            p.names = p.inner.get(0).names;
        } else if (head.sort.equals("all") || head.sort.equals("is")) {
            p.name = toks.get(1).worth;
            p.inner.add(tree(toks.subList(2, toks.size()), order));
            p.names = new ArrayList<>(p.inner.get(0).names);
            p.names.remove((Integer) p.name);
        } else {
            p.toks = toks;
            p.form = "atom";
            for (int i = 0; i < toks.size(); i++) {
                Tok tok = toks.get(i);
                if (tok.sort.equals("=") || tok.sort.startsWith("<")) {
                    p.mid = i;
                    p.place = tok.place;
                }
                if (tok.sort.equals("NAME")) {
                    p.names = union(p.names, List.of(tok.worth));
                }
            }
        }
        order.add(p);
        return p;
    }

    // ---------------------------------------------------------------- the court

    private static final class Row {
        int kind;
        int question = -1;
        M m;
        java.util.function.LongToIntFunction letter;
    }

    private static final class Q {
        int fault;
        int place = -1;
        int spent = -1;
        List<Integer> names = new ArrayList<>();
        int parts;
        TreeSet<Integer> rows = new TreeSet<>();
        M m;

        boolean askable() {
            return fault == 0 && spent < 0;
        }
    }

    /** The oracle's court. */
    private static final class Court {
        int base = 2;
        List<Row> rows = new ArrayList<>();
        List<Q> questions = new ArrayList<>();
        StringBuilder tape = new StringBuilder();
        int[][] sheets = new int[6][];
        int[] sorts = new int[6];
        List<Integer> trace = new ArrayList<>();
        int status;

        int no(int why) {
            status = why;
            seen[5]++;
            return -1;
        }

        int ok(int answer) {
            status = 0;
            return answer;
        }

        int begin(int b) {
            if (b < 2 || b > 3) {
                return no(1);
            }
            base = b;
            rows.clear();
            questions.clear();
            return ok(1);
        }

        int sheet(int s, int sort, int n) {
            if (s < 0 || s > 5 || sort < -1 || sort > 2 || sort >= 0 && (n < 0 || n > 40)) {
                return no(1);
            }
            sheets[s] = sort < 0 ? null : new int[n];
            sorts[s] = sort;
            return ok(1);
        }

        int cell(int s, int i, int v) {
            if (s < 0 || s > 5 || v < 0 || v > 100) {
                return no(1);
            }
            if (sheets[s] == null) {
                return no(10);
            }
            if (i < 0 || i >= sheets[s].length) {
                return no(12);
            }
            sheets[s][i] = v;
            return ok(1);
        }

        int addRow(int kind, M raw, java.util.function.LongToIntFunction letter) {
            Row row = new Row();
            row.kind = kind;
            row.m = least(raw);
            row.letter = letter;
            rows.add(row);
            return ok(rows.size() - 1);
        }

        int machine(int st, int le, int sort, int n) {
            if (st < 0 || st > 5 || le < 0 || le > 5 || sort < 0 || sort > 2 || n < 1 || n > 8) {
                return no(1);
            }
            if (rows.size() == 10) {
                return no(2);
            }
            if (sheets[st] != null && sorts[st] != sort || sheets[le] != null && sorts[le] != sort) {
                return no(11);
            }
            if (sheets[st] != null && sheets[st].length < n * base || sheets[le] != null && sheets[le].length < n) {
                return no(12);
            }
            int[] steps = sheets[st] == null ? new int[n * base] : Arrays.copyOf(sheets[st], n * base);
            int[] letters = sheets[le] == null ? new int[n] : Arrays.copyOf(sheets[le], n);
            for (int s : steps) {
                if (s >= n) {
                    return no(3);
                }
            }
            for (int l : letters) {
                if (l > 7) {
                    return no(3);
                }
            }
            int b = base;
            M raw = explore(new Raw<Integer>() {
                public Integer first() {
                    return -1;
                }

                public Integer after(Integer s, int d) {
                    return s < 0 && d == 0 ? -1 : steps[Math.max(s, 0) * b + d];
                }

                public int mark(Integer s) {
                    return letters[Math.max(s, 0)];
                }
            }, base, 100);
            return addRow(0, raw, number -> {
                int s = 0;
                if (number > 0) {
                    for (char c : Long.toString(number, b).toCharArray()) {
                        s = steps[s * b + c - '0'];
                    }
                }
                return letters[s];
            });
        }

        int sheetFault(int s, int sort, int size) {
            if (rows.size() == 10) {
                return 2;
            }
            if (sheets[s] == null) {
                return 10;
            }
            if (sorts[s] != sort) {
                return 11;
            }
            return sheets[s].length < size ? 12 : 0;
        }

        int grown(int s, int sort, int n) {
            if (s < 0 || s > 5 || sort < 0 || sort > 2 || n < 1 || n > 8) {
                return no(1);
            }
            int why = sheetFault(s, sort, n * base);
            if (why > 0) {
                return no(why);
            }
            int[] images = Arrays.copyOf(sheets[s], n * base);
            for (int l : images) {
                if (l >= n) {
                    return no(3);
                }
            }
            if (images[0] != 0) {
                return no(3);
            }
            int[] word = {0};
            while (word.length < 2000) {
                int[] longer = new int[word.length * base];
                for (int i = 0; i < longer.length; i++) {
                    longer[i] = images[word[i / base] * base + i % base];
                }
                word = longer;
            }
            int[] told = word;
            int b = base;
            M raw = explore(new Raw<Integer>() {
                public Integer first() {
                    return 0;
                }

                public Integer after(Integer state, int d) {
                    return images[state * b + d];
                }

                public int mark(Integer state) {
                    return state;
                }
            }, base, 100);
            return addRow(1, raw, number -> told[(int) number]);
        }

        int ring(int s, int sort, int begin, int length) {
            if (s < 0 || s > 5 || sort < 0 || sort > 2 || begin < 0 || begin > 6 || length < 1 || length > 6) {
                return no(1);
            }
            int why = sheetFault(s, sort, begin + length);
            if (why > 0) {
                return no(why);
            }
            int[] letters = Arrays.copyOf(sheets[s], begin + length);
            for (int l : letters) {
                if (l > 7) {
                    return no(3);
                }
            }
            java.util.function.LongToIntFunction at =
                n -> letters[(int) (n < begin ? n : begin + (n - begin) % length)];
            int b = base;
            M raw = explore(new Raw<List<Integer>>() {
                // The number, capped, and modulo the stretch.
                public List<Integer> first() {
                    return List.of(0, 0);
                }

                public List<Integer> after(List<Integer> state, int d) {
                    return List.of(Math.min(9, state.get(0) * b + d), (state.get(1) * b + d) % length);
                }

                public int mark(List<Integer> state) {
                    if (state.get(0) < begin) {
                        return letters[state.get(0)];
                    }
                    return letters[begin + Math.floorMod(state.get(1) - begin, length)];
                }
            }, base, 1000);
            return addRow(2, raw, at);
        }

        int pair(int x, int y, int way) {
            if (x < 0 || x >= rows.size() || y < 0 || y >= rows.size() || way < 0 || way > 2) {
                return no(1);
            }
            if (rows.size() == 10) {
                return no(2);
            }
            Way w = way == 0 ? (p, q) -> p == q ? 1 : 0 : way == 1 ? (p, q) -> (p + q) % 8 : Math::max;
            Row one = rows.get(x);
            Row other = rows.get(y);
            M m = joined(one.m, List.of(0), other.m, List.of(0), base, w);
            if (m.states() > 60) {
                return no(3);
            }
            return addRow(3, m, n -> w.of(one.letter.applyAsInt(n), other.letter.applyAsInt(n)));
        }

        int sought(int q) {
            if (q < 0 || q >= questions.size()) {
                return no(1);
            }
            if (rows.size() == 10) {
                return no(2);
            }
            Q told = questions.get(q);
            if (!told.askable() || told.names.size() != 1) {
                return no(3);
            }
            int b = base;
            int answer = addRow(4, told.m, n -> reads(told.m, b, BigInteger.valueOf(n)));
            rows.get(answer).question = q;
            return answer;
        }

        int feed(int n, long bytes) {
            if (n < 1 || n > 8) {
                return no(1);
            }
            if (tape.length() + n > 120) {
                return no(2);
            }
            for (int i = 0; i < n; i++) {
                tape.append((char) (bytes >> 8 * i & 255));
            }
            return ok(tape.length());
        }

        int question() {
            String text = tape.toString();
            tape.setLength(0);
            if (questions.size() == 10) {
                return no(2);
            }
            Q q = judged(text);
            questions.add(q);
            seen[q.fault == 0 && q.spent >= 0 ? 4 : q.fault]++;
            return ok(questions.size() - 1);
        }

        Q judged(String text) {
            Q q = new Q();
            List<Tok> toks = cut(text);
            int broken = brokenToken(toks);
            if (broken >= 0) {
                q.fault = 1;
                q.place = toks.get(broken).place;
                return q;
            }
            List<P> order = new ArrayList<>();
            P whole = tree(toks.subList(0, toks.size() - 1), order);
            TreeSet<Integer> odd = new TreeSet<>();
            scopes(whole, new ArrayList<>(), toks, odd);
            for (P p : order) {
                if (p.form.equals("atom")) {
                    oddAtom(p, odd, q);
                }
            }
            if (!odd.isEmpty()) {
                q.fault = 2;
                q.place = odd.first();
                return q;
            }
            for (P p : order) {
                if (p.names.size() > 3) {
                    q.fault = 3;
                    q.place = p.place;
                    return q;
                }
            }
            q.names = whole.names;
            q.parts = order.size();
            for (P p : order) {
                p.m = partMachine(p);
                if (p.m == null || p.m.states() > 40) {
                    q.spent = p.place;
                    return q;
                }
            }
            q.m = whole.m;
            return q;
        }

        void scopes(P p, List<Integer> bound, List<Tok> toks, TreeSet<Integer> odd) {
            List<Integer> inner = bound;
            if (p.name >= 0) {
                if (bound.contains(p.name)) {
                    for (int i = 0; i + 1 < toks.size(); i++) {
                        if (toks.get(i).place == p.place) {
                            odd.add(toks.get(i + 1).place);
                        }
                    }
                }
                inner = union(bound, List.of(p.name));
            }
            for (P q : p.inner) {
                scopes(q, inner, toks, odd);
            }
        }

        void oddAtom(P p, TreeSet<Integer> odd, Q q) {
            int sum = 0;
            for (int i = 0; i < p.toks.size(); i++) {
                Tok tok = p.toks.get(i);
                boolean inRows = p.toks.get(0).sort.equals("ROW");
                if (tok.sort.equals("ROW")) {
                    boolean more = p.toks.get(i + 3).sort.equals("+");
                    if (tok.worth >= rows.size() || more && rows.get(tok.worth).m.states() > 6) {
                        odd.add(tok.place);
                    }
                    if (more && p.toks.get(i + 4).sort.equals("NUM") && p.toks.get(i + 4).worth > 3) {
                        odd.add(p.toks.get(i + 4).place);
                    }
                    q.rows.add(tok.worth);
                }
                if (inRows && i == p.mid + 1 && tok.sort.equals("NUM") && tok.worth > 7) {
                    odd.add(tok.place);
                }
                if (i == p.mid) {
                    sum = 0;
                }
                if (!inRows && tok.sort.equals("NUM")) {
                    sum += tok.worth;
                    if (sum > 99) {
                        odd.add(tok.place);
                    }
                }
            }
        }

        /** The least machine of a part; null when it is spent ahead of that. */
        M partMachine(P p) {
            switch (p.form) {
                case "atom":
                    return p.toks.get(0).sort.equals("ROW") ? rowAtom(p) : sumAtom(p);
                case "not":
                    return joined(p.inner.get(0).m, p.names, p.inner.get(0).m, p.names, base, (a, b) -> 1 - a);
                case "and":
                    return two(p, (a, b) -> a * b);
                case "or":
                    return two(p, Math::max);
                case "so":
                    return two(p, (a, b) -> a <= b ? 1 : 0);
                default:
                    return bound(p);
            }
        }

        M two(P p, Way way) {
            P a = p.inner.get(0);
            P b = p.inner.get(1);
            return joined(a.m, a.names, b.m, b.names, base, way);
        }

        /** Lowest digit first: what is carried, and whether any digit so far was not nought. */
        M sumAtom(P p) {
            int[] times = new int[p.names.size()];
            int number = 0;
            for (int i = 0; i < p.toks.size(); i++) {
                Tok tok = p.toks.get(i);
                int side = i < p.mid ? 1 : -1;
                if (tok.sort.equals("NUM")) {
                    number += side * tok.worth;
                } else if (tok.sort.equals("NAME")) {
                    times[p.names.indexOf(tok.worth)] += side;
                }
            }
            int first = number;
            String sign = p.toks.get(p.mid).sort;
            M lowFirst = explore(new Raw<List<Integer>>() {
                public List<Integer> first() {
                    return List.of(first, 0);
                }

                public List<Integer> after(List<Integer> s, int row) {
                    int sum = s.get(0);
                    for (int i = 0; i < times.length; i++) {
                        sum += times[i] * digit(row, base, times.length, i);
                    }
                    return List.of(Math.floorDiv(sum, base),
                        Math.floorMod(sum, base) != 0 || s.get(1) == 1 ? 1 : 0);
                }

                public int mark(List<Integer> s) {
                    int compared = s.get(0) != 0 ? s.get(0) : s.get(1);
                    boolean holds = sign.equals("=") ? compared == 0 : sign.equals("<") ? compared < 0 : compared <= 0;
                    return holds ? 1 : 0;
                }
            }, pow(base, times.length), Integer.MAX_VALUE);
            return turned(lowFirst, Integer.MAX_VALUE);
        }

        M rowAtom(P p) {
            List<Integer> leftNames = new ArrayList<>();
            List<Integer> rightNames = new ArrayList<>();
            M left = letters(p.toks.subList(0, p.mid), leftNames);
            if (left == null) {
                return null;
            }
            if (p.toks.get(p.mid + 1).sort.equals("NUM")) {
                int worth = p.toks.get(p.mid + 1).worth;
                return joined(left, leftNames, left, leftNames, base, (a, b) -> a == worth ? 1 : 0);
            }
            M right = letters(p.toks.subList(p.mid + 1, p.toks.size()), rightNames);
            if (right == null) {
                return null;
            }
            return joined(left, leftNames, right, rightNames, base, (a, b) -> a == b ? 1 : 0);
        }

        /** Lowest digit first: what is carried, and where each state of the row's machine would get by those behind. */
        M letters(List<Tok> toks, List<Integer> names) {
            M row = rows.get(toks.get(0).worth).m;
            names.add(toks.get(2).worth);
            int number = 0;
            List<Integer> all = new ArrayList<>(names);
            if (toks.get(3).sort.equals("+")) {
                if (toks.get(4).sort.equals("NUM")) {
                    number = toks.get(4).worth;
                } else {
                    all.add(toks.get(4).worth);
                    List<Integer> both = union(names, List.of(toks.get(4).worth));
                    names.clear();
                    names.addAll(both);
                }
            }
            if (all.size() == 1 && number == 0) {
                return row.states() > 40 ? null : row;
            }
            int carried = number;
            List<Integer> start = new ArrayList<>();
            start.add(carried);
            for (int i = 0; i < row.states(); i++) {
                start.add(i);
            }
            M lowFirst = explore(new Raw<List<Integer>>() {
                public List<Integer> first() {
                    return start;
                }

                public List<Integer> after(List<Integer> s, int digits) {
                    int sum = s.get(0);
                    for (int name : all) {
                        sum += digit(digits, base, names.size(), names.indexOf(name));
                    }
                    List<Integer> next = new ArrayList<>();
                    next.add(sum / base);
                    for (int i = 0; i < row.states(); i++) {
                        next.add(s.get(1 + row.moves.get(i)[sum % base]));
                    }
                    return next;
                }

                public int mark(List<Integer> s) {
                    int state = 0;
                    for (char c : Integer.toString(s.get(0), base).toCharArray()) {
                        state = row.moves.get(state)[c - '0'];
                    }
                    return row.marks.get(s.get(1 + state));
                }
            }, pow(base, names.size()), Integer.MAX_VALUE);
            M m = turned(lowFirst, 5000);
            return m == null || m.states() > 40 ? null : m;
        }

        M bound(P p) {
            P inner = p.inner.get(0);
            if (!inner.names.contains(p.name)) {
                return inner.m;
            }
            boolean all = p.form.equals("all");
            M m = all ? joined(inner.m, inner.names, inner.m, inner.names, base, (a, b) -> 1 - a) : inner.m;
            TreeSet<Integer> first = new TreeSet<>(List.of(0));
            for (boolean more = true; more;) {
                more = false;
                for (int s : new ArrayList<>(first)) {
                    for (int d = 0; d < base; d++) {
                        int row = 0;
                        for (int name : inner.names) {
                            row = row * base + (name == p.name ? d : 0);
                        }
                        more |= first.add(m.moves.get(s)[row]);
                    }
                }
            }
            M sets = explore(new Raw<TreeSet<Integer>>() {
                public TreeSet<Integer> first() {
                    return first;
                }

                public TreeSet<Integer> after(TreeSet<Integer> set, int digits) {
                    TreeSet<Integer> next = new TreeSet<>();
                    for (int row = 0; row < m.fan(); row++) {
                        if (rowOf(row, base, inner.names, p.names) == digits) {
                            for (int s : set) {
                                next.add(m.moves.get(s)[row]);
                            }
                        }
                    }
                    return next;
                }

                public int mark(TreeSet<Integer> set) {
                    for (int s : set) {
                        if (m.marks.get(s) == 1) {
                            return all ? 0 : 1;
                        }
                    }
                    return all ? 1 : 0;
                }
            }, pow(base, p.names.size()), 300);
            return sets == null ? null : least(sets);
        }

        int drop(int what) {
            if (what != 0 && what != 1) {
                return no(1);
            }
            int size = what == 0 ? rows.size() : questions.size();
            if (size == 0) {
                return no(3);
            }
            if (what == 0) {
                for (Q q : questions) {
                    if (q.fault == 0 && q.rows.contains(size - 1)) {
                        return no(3);
                    }
                }
                rows.remove(size - 1);
            } else {
                for (Row row : rows) {
                    if (row.question == size - 1) {
                        return no(3);
                    }
                }
                questions.remove(size - 1);
            }
            return ok(size - 1);
        }

        int count(int what) {
            int[] counts = {rows.size(), questions.size(), tape.length(), base, trace.size()};
            return what < 0 || what > 4 ? -1 : counts[what];
        }

        Row row(int i) {
            return i < 0 || i >= rows.size() ? null : rows.get(i);
        }

        int letter(int i, long number) {
            if (row(i) == null || number < 0 || number > TOP) {
                return -1;
            }
            int letter = reads(row(i).m, base, BigInteger.valueOf(number));
            if (number < 2000 && letter != row(i).letter.applyAsInt(number)) {
                throw new IllegalStateException("the oracle's own letters differ");
            }
            return letter;
        }

        long differ(int a, int b) {
            if (row(a) == null || row(b) == null) {
                return -2;
            }
            return least(joined(row(a).m, List.of(0), row(b).m, List.of(0), base, (p, q) -> p == q ? 0 : 1), base, -1);
        }

        Q asked(int i) {
            Q q = i < 0 || i >= questions.size() ? null : questions.get(i);
            return q != null && q.askable() ? q : null;
        }

        int told(int i, int what) {
            if (i < 0 || i >= questions.size() || what < 0 || what > 8) {
                return -1;
            }
            Q q = questions.get(i);
            if (what < 3) {
                return what == 0 ? q.fault : what == 1 ? q.place : q.spent;
            }
            if (q.fault > 0 || what == 8 && q.spent >= 0) {
                return -2;
            }
            if (what == 3) {
                return q.names.size();
            }
            if (what == 7) {
                return q.parts;
            }
            return what == 8 ? q.m.states() : what - 4 < q.names.size() ? q.names.get(what - 4) : -1;
        }

        int step(int i, int state, int digits) {
            Q q = asked(i);
            boolean none = q == null || state < 0 || state >= q.m.states() || digits < 0 || digits >= q.m.fan();
            return none ? -1 : q.m.moves.get(state)[digits];
        }

        int takes(int i, int state) {
            Q q = asked(i);
            return q == null || state < 0 || state >= q.m.states() ? -1 : q.m.marks.get(state);
        }

        int holds(int i, long... numbers) {
            Q q = asked(i);
            if (q == null) {
                return -1;
            }
            BigInteger[] told = new BigInteger[q.names.size()];
            for (int k = 0; k < told.length; k++) {
                if (numbers[k] < 0 || numbers[k] > TOP) {
                    return -1;
                }
                told[k] = BigInteger.valueOf(numbers[k]);
            }
            return reads(q.m, base, told);
        }

        long next(int i, long above) {
            Q q = asked(i);
            return q == null || q.names.size() != 1 || above < -1 || above > TOP ? -2 : least(q.m, base, above);
        }

        long many(int i) {
            Q q = asked(i);
            return q == null || q.names.size() != 1 ? -2 : EndlessRowsOracleTest.many(q.m, base);
        }

        long values(int i, long second) {
            Q q = asked(i);
            if (q == null || q.names.size() != 2 || second < 0 || second > 1L << 30) {
                return -2;
            }
            // The machine of "it holds, and the second number is this one", with the second number's digits known.
            String text = Long.toString(second, base);
            int pad = 130;
            M m = explore(new Raw<List<Integer>>() {
                public List<Integer> first() {
                    return List.of(0, -1);
                }

                // Counts the digits from the highest one of a number that is pad digits long.
                public List<Integer> after(List<Integer> s, int d) {
                    int at = s.get(1) + 1;
                    if (at > pad) {
                        return s;
                    }
                    int own = at < pad - text.length() ? 0 : at < pad ? text.charAt(at - pad + text.length()) - '0' : 0;
                    if (at == pad) {
                        return List.of(-1, pad);
                    }
                    return List.of(q.m.moves.get(s.get(0))[d * base + own], at);
                }

                public int mark(List<Integer> s) {
                    return s.get(1) == pad - 1 && q.m.marks.get(s.get(0)) == 1 ? 1 : 0;
                }
            }, base, Integer.MAX_VALUE);
            // Words of pad digits that are taken; those that begin with something but noughts far ahead are endless.
            BigInteger[] ways = new BigInteger[m.states()];
            Arrays.fill(ways, BigInteger.ZERO);
            ways[0] = BigInteger.ONE;
            BigInteger[] small = ways.clone();
            int few = pad - text.length() - 45;
            for (int i2 = 0; i2 < pad; i2++) {
                BigInteger[] next = new BigInteger[m.states()];
                BigInteger[] nextSmall = new BigInteger[m.states()];
                Arrays.fill(next, BigInteger.ZERO);
                Arrays.fill(nextSmall, BigInteger.ZERO);
                for (int s = 0; s < m.states(); s++) {
                    for (int d = 0; d < base; d++) {
                        int to = m.moves.get(s)[d];
                        next[to] = next[to].add(ways[s]);
                        if (d == 0 || i2 >= few) {
                            nextSmall[to] = nextSmall[to].add(small[s]);
                        }
                    }
                }
                ways = next;
                small = nextSmall;
            }
            BigInteger sum = BigInteger.ZERO;
            BigInteger sumSmall = BigInteger.ZERO;
            for (int s = 0; s < m.states(); s++) {
                if (m.marks.get(s) == 1) {
                    sum = sum.add(ways[s]);
                    sumSmall = sumSmall.add(small[s]);
                }
            }
            if (!sum.equals(sumSmall)) {
                return -1;
            }
            return sum.compareTo(BigInteger.valueOf(TOP)) > 0 ? -3 : sum.longValue();
        }

        int alike(int a, int b) {
            Q one = asked(a);
            Q other = asked(b);
            if (one == null || other == null) {
                return -1;
            }
            return one.names.size() == other.names.size() && one.m.same(other.m) ? 1 : 0;
        }

        int act(int i, int act, int x) {
            if (row(i) == null || act < 0 || act > 3) {
                return no(1);
            }
            trace.clear();
            Body body = row(i).kind == 0 ? new Body() : row(i).kind == 1 ? new GrownBody() : row(i).kind == 2
                ? new RingBody() : row(i).kind == 3 ? new PairBody() : new SoughtBody();
            body.n = i;
            body.k = row(i).m.states();
            body.trace = trace;
            return ok(act == 0 ? body.read(x) : act == 1 ? body.step(x) : act == 2 ? body.join(x) : body.tell(x));
        }

        int forge(int what, int n, int k) {
            if (what < 0 || what > 6 || n < -100 || n > 100 || k < -100 || k > 100) {
                return no(1);
            }
            Row row = row((k % 10 + 10) % 10);
            int s = (k % 6 + 6) % 6;
            try {
                switch (what) {
                    case 0: {
                        Body[] kinds = {new Body(), new GrownBody(), new RingBody(), new PairBody(), new SoughtBody()};
                        if (row == null) {
                            return no(10);
                        }
                        Class<?> want = kinds[(n % 5 + 5) % 5].getClass();
                        want.cast(kinds[row.kind]);
                        return ok(row.kind);
                    }
                    case 1:
                        return ok(new int[n].length);
                    case 2: {
                        Object host = host(s);
                        return ok(((short[]) host)[n]);
                    }
                    case 3: {
                        Object host = host(s);
                        byte[] bytes = (byte[]) host;
                        byte[] to = new byte[5];
                        System.arraycopy(bytes, 2, to, n, n);
                        int sum = 0;
                        for (byte b : to) {
                            sum += b;
                        }
                        return ok(sum);
                    }
                    case 4: {
                        Object[] store = new GrownBody[1];
                        store[0] = row == null ? null : new Body[] {new Body(), new GrownBody(), new RingBody(),
                            new PairBody(), new SoughtBody()}[row.kind];
                        return ok(row == null ? 0 : row.kind);
                    }
                    case 5:
                        return ok(1000 / n);
                    default:
                        try {
                            throw n % 2 == 0 ? null : new IllegalStateException();
                        } catch (IllegalStateException caught) {
                            return ok(1);
                        }
                }
            } catch (NullPointerException e) {
                return no(10);
            } catch (ClassCastException e) {
                return no(11);
            } catch (IndexOutOfBoundsException e) {
                return no(12);
            } catch (NegativeArraySizeException e) {
                return no(13);
            } catch (ArrayStoreException e) {
                return no(14);
            } catch (ArithmeticException e) {
                return no(15);
            }
        }

        Object host(int s) {
            if (sheets[s] == null) {
                return null;
            }
            int n = sheets[s].length;
            byte[] bytes = new byte[n];
            short[] shorts = new short[n];
            for (int i = 0; i < n; i++) {
                bytes[i] = (byte) sheets[s][i];
                shorts[i] = (short) sheets[s][i];
            }
            return sorts[s] == 0 ? bytes : sorts[s] == 1 ? shorts : sheets[s];
        }
    }

    private static class Body {
        int n;
        int k;
        List<Integer> trace;

        int read(int x) {
            trace.add(10);
            return x + n;
        }

        int step(int x) {
            trace.add(11);
            return read(x) * 3;
        }

        int join(int x) {
            trace.add(12);
            return x ^ k;
        }

        int tell(int x) {
            trace.add(13);
            return step(x) - join(x);
        }
    }

    private static class GrownBody extends Body {
        @Override int read(int x) {
            trace.add(20);
            return super.read(x) * 2;
        }

        @Override int tell(int x) {
            trace.add(21);
            return super.tell(x + 1);
        }
    }

    private static final class RingBody extends GrownBody {
        @Override int step(int x) {
            trace.add(30);
            return super.step(x) + 5;
        }

        @Override int join(int x) {
            trace.add(31);
            return super.join(x) - x;
        }
    }

    private static final class PairBody extends Body {
        @Override int join(int x) {
            trace.add(40);
            return super.join(x) * n;
        }
    }

    private static final class SoughtBody extends Body {
        @Override int step(int x) {
            trace.add(50);
            return super.step(x - 1);
        }

        @Override int tell(int x) {
            trace.add(51);
            return join(x) ^ super.tell(x);
        }
    }

    // ---------------------------------------------------------------- runs

    /** One run of random calls, asked of both. */
    private static final class Run {
        static final int[] WILD = {Integer.MIN_VALUE, Integer.MIN_VALUE + 1, Integer.MAX_VALUE, Integer.MAX_VALUE - 1,
            1 << 30, -(1 << 30), 1 << 16, 65535, 715827883, 268435456};
        final Random random;
        final long seed;
        final EndlessRows x = new EndlessRows();
        final Court y = new Court();
        final StringBuilder log = new StringBuilder();
        int calls = 0;
        boolean bad = false;
        final boolean hard;

        Run(long seed) {
            this.seed = seed;
            this.hard = seed % 3 == 0;
            this.random = new Random(seed * 7919);
        }

        void due(String call, long got, long want) {
            log.append("  ").append(call).append(" = ").append(got).append('\n');
            calls++;
            if (got != want && !bad) {
                bad = true;
                wrong++;
                System.out.println("run of seed " + seed + ":\n" + log + "  due is " + want);
            }
        }

        void due(String call, long got, long want, boolean told) {
            due(call, got, want);
            if (told) {
                due("status()", x.status(), y.status);
            }
        }

        int some(int low, int high) {
            if (random.nextInt(300) == 0) {
                return WILD[random.nextInt(WILD.length)];
            }
            return random.nextInt(50) == 0 ? random.nextInt(41) - 20 : low + random.nextInt(high - low + 1);
        }

        int among(int size) {
            if (random.nextInt(300) == 0) {
                return WILD[random.nextInt(WILD.length)];
            }
            return random.nextInt(12) == 0 || size == 0 ? random.nextInt(14) - 2 : random.nextInt(size);
        }

        long number() {
            switch (random.nextInt(8)) {
                case 0: return TOP - random.nextInt(3);
                case 1: return TOP + random.nextInt(2);
                case 2: return -1 - random.nextInt(2);
                case 3: return random.nextLong() >>> 2 + random.nextInt(60);
                case 4: return random.nextInt(20) == 0 ? random.nextLong() : random.nextInt(100);
                default: return random.nextInt(1 << 1 + random.nextInt(8));
            }
        }

        void go() {
            if (random.nextBoolean()) {
                due("begin(3)", x.begin(3), y.begin(3), true);
            }
            if (hard) {
                setUp();
            }
            while (calls < 400 && !bad) {
                switch (hard ? 3 + random.nextInt(7) : random.nextInt(10)) {
                    case 0: makeSheet(); break;
                    case 1: case 2: makeRow(); break;
                    case 3: case 4: makeQuestion(); break;
                    case 5: odd(); break;
                    case 6: askRow(); break;
                    default: askQuestion();
                }
            }
        }

        /** Some rows of many states, for heavy questions. */
        void setUp() {
            int rows = 2 + random.nextInt(3);
            for (int i = 0; i < rows; i++) {
                int n = 3 + random.nextInt(5);
                fill(0, n * y.base, n);
                fill(1, 12, 2 + random.nextInt(3));
                switch (random.nextInt(3)) {
                    case 0: due("machine(0, 1, 0, n)", x.machine(0, 1, 0, n), y.machine(0, 1, 0, n), true); break;
                    case 1: due("ring(1, 0, 6, 6)", x.ring(1, 0, n - 2, 6), y.ring(1, 0, n - 2, 6), true); break;
                    default: due("grown(0, 0, n)", x.grown(0, 0, n), y.grown(0, 0, n), true);
                }
            }
            int way = random.nextInt(3);
            due("pair(0, 1, way)", x.pair(0, 1, way), y.pair(0, 1, way), true);
        }

        void fill(int sheet, int size, int below) {
            due("sheet(" + sheet + ", 0, 24)", x.sheet(sheet, 0, 24), y.sheet(sheet, 0, 24), true);
            for (int i = 1; i < size; i++) {
                int v = random.nextInt(below);
                due("cell(" + sheet + ", " + i + ", " + v + ")", x.cell(sheet, i, v), y.cell(sheet, i, v), true);
            }
        }

        void makeSheet() {
            int s = some(0, 5);
            int sort = random.nextInt(6) == 0 ? some(-1, 2) : 0;
            int n = random.nextInt(6) == 0 ? some(0, 40) : 24;
            due("sheet(" + s + ", " + sort + ", " + n + ")", x.sheet(s, sort, n), y.sheet(s, sort, n), true);
            int most = 1 + random.nextInt(5);
            int cells = hard ? 14 : random.nextInt(14);
            for (int k = 0; k < cells; k++) {
                int i = hard ? k : some(0, 14);
                int v = random.nextInt(40) == 0 ? some(0, 100) : random.nextInt(most + 1);
                due("cell(" + s + ", " + i + ", " + v + ")", x.cell(s, i, v), y.cell(s, i, v), true);
            }
        }

        void makeRow() {
            int s = some(0, 5);
            int t = some(0, 5);
            int sort = random.nextInt(8) == 0 ? some(0, 2) : 0;
            int n = random.nextInt(4) == 0 ? some(1, 8) : 2 + random.nextInt(3) + (hard ? random.nextInt(4) : 0);
            switch (random.nextInt(6)) {
                case 0:
                    due("machine(" + s + ", " + t + ", " + sort + ", " + n + ")",
                        x.machine(s, t, sort, n), y.machine(s, t, sort, n), true);
                    break;
                case 1: case 2:
                    due("grown(" + s + ", " + sort + ", " + n + ")", x.grown(s, sort, n), y.grown(s, sort, n), true);
                    break;
                case 3: {
                    int begin = some(0, 6);
                    int length = some(1, 6);
                    due("ring(" + s + ", " + sort + ", " + begin + ", " + length + ")",
                        x.ring(s, sort, begin, length), y.ring(s, sort, begin, length), true);
                    break;
                }
                case 4: {
                    int a = among(y.rows.size());
                    int b = among(y.rows.size());
                    int way = some(0, 2);
                    due("pair(" + a + ", " + b + ", " + way + ")", x.pair(a, b, way), y.pair(a, b, way), true);
                    break;
                }
                default: {
                    int q = among(y.questions.size());
                    due("sought(" + q + ")", x.sought(q), y.sought(q), true);
                }
            }
        }

        // ---- texts of questions

        String name() {
            return String.valueOf((char) ('a' + random.nextInt(random.nextInt(5) == 0 ? 8 : 3)));
        }

        String sum() {
            StringBuilder s = new StringBuilder();
            int terms = 1 + random.nextInt(3);
            for (int i = 0; i < terms; i++) {
                s.append(i > 0 ? random.nextBoolean() ? " + " : "+" : "");
                s.append(random.nextInt(3) > 0 ? name() : String.valueOf(random.nextInt(random.nextInt(6) == 0 ? 100 : 8)));
            }
            return s.toString();
        }

        String index() {
            int row = random.nextInt(30) == 0 || y.rows.isEmpty() ? random.nextInt(10) : random.nextInt(y.rows.size());
            String more = random.nextInt(3) > 0 ? "" : " + "
                + (random.nextBoolean() ? name() : String.valueOf(random.nextInt(random.nextInt(20) == 0 ? 6 : 4)));
            return "r" + row + "[" + name() + more + "]";
        }

        String atom() {
            if (random.nextBoolean() || y.rows.isEmpty() && random.nextInt(10) > 0) {
                String[] signs = {" = ", " < ", " <= ", "=", "<", "<="};
                return sum() + signs[random.nextInt(6)] + sum();
            }
            int number = random.nextInt(random.nextInt(20) == 0 ? 10 : 3);
            return index() + " = " + (random.nextInt(3) > 0 ? String.valueOf(number) : index());
        }

        /** Questions that make many states and many sets. */
        String heavy() {
            String bound = random.nextBoolean() ? "is b " : "all b ";
            String[] joins = {" and ", " or ", " so "};
            String inner = heavyAtom();
            int more = random.nextInt(3);
            for (int i = 0; i < more; i++) {
                inner = inner + joins[random.nextInt(3)] + heavyAtom();
            }
            String whole = bound + "(" + inner + ")";
            return random.nextInt(4) == 0 ? whole + joins[random.nextInt(3)] + heavyAtom() : whole;
        }

        String heavyAtom() {
            switch (random.nextInt(5)) {
                case 0: return sum() + (random.nextBoolean() ? " = " : " < ") + sum();
                case 1: return "r" + random.nextInt(Math.max(1, y.rows.size())) + "[a + b] = " + random.nextInt(4);
                case 2: return "r" + random.nextInt(Math.max(1, y.rows.size())) + "[b] = " + random.nextInt(3);
                case 3: return index() + " = " + index();
                default: return "r" + random.nextInt(Math.max(1, y.rows.size())) + "[b] = "
                    + "r" + random.nextInt(Math.max(1, y.rows.size())) + "[a]";
            }
        }

        String formula(int size) {
            if (size <= 0) {
                return atom();
            }
            switch (random.nextInt(9)) {
                case 0: return "not " + formula(size - 1);
                case 1: case 2: return "is " + name() + " " + formula(size - 1);
                case 3: return "all " + name() + " " + formula(size - 1);
                case 4: return "(" + formula(size - 1) + ")";
                case 5: return formula(size - 2) + " and " + formula(size - 2);
                case 6: return formula(size - 2) + " or " + formula(size - 2);
                case 7: return formula(size - 2) + " so " + formula(size - 2);
                default: return "(" + formula(size - 2) + " and " + formula(size - 2) + ")";
            }
        }

        String text() {
            String text = hard && random.nextInt(3) > 0 ? heavy() : formula(random.nextInt(6));
            if (random.nextInt(12) == 0) {
                StringBuilder deep = new StringBuilder(text);
                int times = 6 + random.nextInt(6);
                for (int i = 0; i < times; i++) {
                    deep.insert(0, random.nextBoolean() ? "(" : "not ");
                    if (deep.charAt(0) == '(') {
                        deep.append(")");
                    }
                }
                text = deep.toString();
            }
            if (random.nextInt(hard ? 20 : 4) == 0) {
                StringBuilder b = new StringBuilder(text);
                int times = 1 + random.nextInt(2);
                for (int i = 0; i < times && b.length() > 0; i++) {
                    int at = random.nextInt(b.length());
                    switch (random.nextInt(4)) {
                        case 0: b.deleteCharAt(at); break;
                        case 1: b.insert(at, "abhirz019 ()[]+=<\u0000\u00ff\t".charAt(random.nextInt(20))); break;
                        case 2: b.setLength(at); break;
                        default: {
                            String[] more = {"so", " or ", "and", "not ", "is a ", "all", "r0", " r1[", "99", "100", "<="};
                            b.insert(at, more[random.nextInt(more.length)]);
                        }
                    }
                }
                text = b.toString();
            }
            return text;
        }

        void makeQuestion() {
            if (y.questions.size() == 10 && random.nextInt(3) > 0) {
                drop(1);
                return;
            }
            String text = text();
            for (int i = 0; i < 20 && text.length() > 120; i++) {
                text = text();
            }
            feed(text);
            log.append("  '").append(text).append("'\n");
            due("question()", x.question(), y.question(), true);
            int q = y.questions.size() - 1;
            for (int what = 0; what <= 8; what++) {
                due("told(" + q + ", " + what + ")", x.told(q, what), y.told(q, what));
            }
            Q told = y.asked(q);
            if (told != null) {
                for (int i = 0; i < told.m.states(); i++) {
                    for (int d = 0; d < told.m.fan(); d++) {
                        if (x.step(q, i, d) != y.step(q, i, d)) {
                            due("step(" + q + ", " + i + ", " + d + ")", x.step(q, i, d), y.step(q, i, d));
                        }
                    }
                    if (x.takes(q, i) != y.takes(q, i)) {
                        due("takes(" + q + ", " + i + ")", x.takes(q, i), y.takes(q, i));
                    }
                }
            }
        }

        void feed(String text) {
            for (int at = 0; at < text.length(); at += 8) {
                int n = Math.min(8, text.length() - at);
                long bytes = random.nextBoolean() || n == 8 ? 0 : -1L << 8 * n;
                for (int i = 0; i < n; i++) {
                    bytes |= (long) text.charAt(at + i) << 8 * i;
                }
                due("feed(" + n + ", " + bytes + ")", x.feed(n, bytes), y.feed(n, bytes), true);
            }
        }

        void drop(int what) {
            due("drop(" + what + ")", x.drop(what), y.drop(what), true);
        }

        void odd() {
            switch (random.nextInt(12)) {
                case 0: {
                    int n = some(1, 8);
                    long bytes = random.nextLong();
                    due("feed(" + n + ", " + bytes + ")", x.feed(n, bytes), y.feed(n, bytes), true);
                    break;
                }
                case 1: case 2: drop(some(0, 1)); break;
                case 3: case 4: case 5: {
                    int what = some(0, 6);
                    int n = random.nextInt(20) == 0 ? random.nextInt(240) - 120 : random.nextInt(14) - 4;
                    int k = random.nextInt(20) == 0 ? random.nextInt(240) - 120 : random.nextInt(12) - 3;
                    due("forge(" + what + ", " + n + ", " + k + ")", x.forge(what, n, k), y.forge(what, n, k), true);
                    break;
                }
                case 6: {
                    if (random.nextInt(12) == 0) {
                        int b = some(1, 4);
                        due("begin(" + b + ")", x.begin(b), y.begin(b), true);
                    }
                    break;
                }
                default: {
                    int what = random.nextInt(7) - 1;
                    due("count(" + what + ")", x.count(what), y.count(what));
                    int i = random.nextInt(9) - 1;
                    due("trace(" + i + ")", x.trace(i), i < 0 || i >= y.trace.size() ? -1 : y.trace.get(i));
                }
            }
        }

        void askRow() {
            int a = among(y.rows.size());
            int b = among(y.rows.size());
            Row row = y.row(a);
            long n = number();
            due("letter(" + a + ", " + n + ")", x.letter(a, n), y.letter(a, n));
            switch (random.nextInt(4)) {
                case 0: due("width(" + a + ")", x.width(a), row == null ? -1 : row.m.states()); break;
                case 1: due("kind(" + a + ")", x.kind(a), row == null ? -1 : row.kind); break;
                case 2: due("differ(" + a + ", " + b + ")", x.differ(a, b), y.differ(a, b)); break;
                default: {
                    int act = some(0, 3);
                    int arg = random.nextInt(4) == 0 ? random.nextInt() : random.nextInt(20) - 5;
                    due("act(" + a + ", " + act + ", " + arg + ")", x.act(a, act, arg), y.act(a, act, arg), true);
                    for (int i = 0; i <= y.trace.size(); i++) {
                        due("trace(" + i + ")", x.trace(i), i >= y.trace.size() ? -1 : y.trace.get(i));
                    }
                }
            }
        }

        void askQuestion() {
            int q = among(y.questions.size());
            switch (random.nextInt(7)) {
                case 0: case 1: {
                    long first = number();
                    long second = number();
                    long third = number();
                    due("holds(" + q + ", " + first + ", " + second + ", " + third + ")",
                        x.holds(q, first, second, third), y.holds(q, first, second, third));
                    break;
                }
                case 2: {
                    long above = number();
                    due("next(" + q + ", " + above + ")", x.next(q, above), y.next(q, above));
                    break;
                }
                case 3: due("many(" + q + ")", x.many(q), y.many(q)); break;
                case 4: {
                    long second = random.nextInt(4) == 0 ? (1L << 30) - 2 + random.nextInt(4) : number();
                    due("values(" + q + ", " + second + ")", x.values(q, second), y.values(q, second));
                    break;
                }
                case 5: {
                    int other = among(y.questions.size());
                    due("alike(" + q + ", " + other + ")", x.alike(q, other), y.alike(q, other));
                    break;
                }
                default: {
                    int i = some(0, 5);
                    int d = some(0, 9);
                    due("step(" + q + ", " + i + ", " + d + ")", x.step(q, i, d), y.step(q, i, d));
                    due("takes(" + q + ", " + i + ")", x.takes(q, i), y.takes(q, i));
                    due("told(" + q + ", " + d + ")", x.told(q, d), y.told(q, d));
                }
            }
        }
    }
}
