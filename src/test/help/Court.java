import java.util.ArrayList;
import java.util.List;

/**
 * What the tests of the document's bounds have in common: one object at a time, asked within its 512 calls. A call
 * that is refused is also made of one of two twins (made by the same calls as the object), which must then answer alike.
 */
abstract class Court {
    static final long TOP = 1L << 62;
    static final int LOWEST = Integer.MIN_VALUE;
    static final int HIGHEST = Integer.MAX_VALUE;

    private static final int MOST_CALLS = 512;
    private static final long[] NUMBERS = {0, 1, 2, 3, 7, 100, TOP};
    private static final List<Call> made = new ArrayList<>();
    private static EndlessRows x = new EndlessRows();
    private static int calls = 0;
    private static int answers = 0;
    private static int wrong = 0;
    private static int status = 0;

    interface Call {
        long of(EndlessRows e);
    }

    private interface Probe {
        void of(EndlessRows e, List<Long> seen);
    }

    static void end(String name) {
        System.out.println(name + ": " + answers + " answers, " + wrong + " wrong");
        System.exit(wrong > 0 ? 1 : 0);
    }

    // ---------------------------------------------------------------- calls

    static void fresh() {
        x = new EndlessRows();
        made.clear();
        calls = 0;
        status = 0;
    }

    static void fresh(int base) {
        fresh();
        does("begin", 1, e -> e.begin(base));
    }

    private static long call(Call call) {
        calls++;
        if (calls == MOST_CALLS + 1) {
            wrong++;
            System.out.println("a test asks more calls of an object than are promised");
        }
        return call.of(x);
    }

    private static void due(String what, long got, long want) {
        answers++;
        if (got != want) {
            wrong++;
            System.out.println(what + ": " + got + ", due is " + want);
        }
    }

    private static void dueStatus(String what, int want) {
        status = want;
        due(what + ": status", call(EndlessRows::status), want);
    }

    /** A call that goes through: its answer, and status 0. */
    static void does(String what, long want, Call call) {
        due(what, call(call), want);
        dueStatus(what, 0);
        made.add(call);
    }

    /** A question: its answer; status stays as it was. */
    static void is(String what, long want, Call call) {
        due(what, call(call), want);
        dueStatus(what, status);
    }

    /** A call that is refused: -1, the status that tells why, and nothing else has changed. */
    static void refused(String what, int why, Call call) {
        due(what, call(call), -1);
        dueStatus(what, why);
        Probe[] probes = {Court::probeRows, Court::probeQuestions, Court::probeSheets, Court::probeTape};
        for (Probe probe : probes) {
            EndlessRows refusing = twin();
            call.of(refusing);
            if (!seen(refusing, probe).equals(seen(twin(), probe))) {
                wrong++;
                System.out.println(what + ": it was refused, but something has changed");
            }
        }
    }

    /** A call that changes something though it is refused. */
    static void refusedYetDone(String what, int why, Call call) {
        due(what, call(call), -1);
        dueStatus(what, why);
        made.add(call);
    }

    // ---------------------------------------------------------------- twins

    private static EndlessRows twin() {
        EndlessRows twin = new EndlessRows();
        for (Call call : made) {
            call.of(twin);
        }
        return twin;
    }

    private static List<Long> seen(EndlessRows e, Probe probe) {
        List<Long> seen = new ArrayList<>();
        probe.of(e, seen);
        return seen;
    }

    private static void probeRows(EndlessRows e, List<Long> seen) {
        for (int row = -1; row < 11; row++) {
            seen.add((long) e.kind(row));
            seen.add((long) e.width(row));
            seen.add(e.differ(row, row + 1));
            for (long number : NUMBERS) {
                seen.add((long) e.letter(row, number));
            }
        }
        for (int i = 0; i < 9; i++) {
            seen.add((long) e.count(i));
            seen.add((long) e.trace(i));
        }
    }

    private static void probeQuestions(EndlessRows e, List<Long> seen) {
        for (int question = 0; question < 11; question++) {
            for (int what = 0; what < 9; what++) {
                seen.add((long) e.told(question, what));
            }
            for (int i = 0; i < 4; i++) {
                seen.add((long) e.takes(question, i));
                seen.add((long) e.step(question, i, i));
            }
            seen.add((long) e.holds(question, 1, 2, 3));
            seen.add(e.next(question, 0));
            seen.add(e.many(question));
            seen.add(e.values(question, 5));
            seen.add((long) e.alike(question, question + 1));
        }
    }

    private static void probeSheets(EndlessRows e, List<Long> seen) {
        e.begin(e.count(3));
        for (int sheet = 0; sheet < 6; sheet++) {
            for (int i = 0; i < 4; i++) {
                seen.add((long) e.forge(2, i, sheet));
                seen.add((long) e.status());
            }
            seen.add((long) e.forge(3, 2, sheet));
            for (int sort = 0; sort < 3; sort++) {
                seen.add((long) e.ring(sheet, sort, 3, 1));
                seen.add((long) e.status());
                for (int i = 0; i < 4; i++) {
                    seen.add((long) e.letter(0, i));
                }
                e.drop(0);
            }
            seen.add((long) e.cell(sheet, 5, 1));
            seen.add((long) e.cell(sheet, 39, 1));
        }
    }

    private static void probeTape(EndlessRows e, List<Long> seen) {
        e.begin(e.count(3));
        seen.add((long) e.question());
        for (int what = 0; what < 9; what++) {
            seen.add((long) e.told(0, what));
        }
        for (int i = 0; i < 6; i++) {
            seen.add((long) e.takes(0, i));
            seen.add((long) e.step(0, i, 1));
        }
        seen.add(e.next(0, -1));
        seen.add((long) e.feed(1, 'a'));
    }

    // ---------------------------------------------------------------- what is often made

    static int calls() {
        return calls;
    }

    static int count(int what) {
        return (int) call(e -> e.count(what));
    }

    static void sheet(int sheet, int sort, int... numbers) {
        does("sheet", 1, e -> e.sheet(sheet, sort, numbers.length));
        for (int i = 0; i < numbers.length; i++) {
            if (numbers[i] != 0) {
                cell(sheet, i, numbers[i]);
            }
        }
    }

    static void cell(int sheet, int i, int number) {
        does("cell", 1, e -> e.cell(sheet, i, number));
    }

    /** So many numbers, all 0 but the last one. */
    static void sheetOf(int sheet, int sort, int many, int last) {
        does("sheet", 1, e -> e.sheet(sheet, sort, many));
        if (last != 0) {
            cell(sheet, many - 1, last);
        }
    }

    static void feed(String text) {
        int already = count(2);
        for (int at = 0; at < text.length(); at += 8) {
            int n = Math.min(8, text.length() - at);
            long bytes = 0;
            for (int i = 0; i < n; i++) {
                bytes |= (long) text.charAt(at + i) << 8 * i;
            }
            long some = bytes;
            does("feed", already + at + n, e -> e.feed(n, some));
        }
    }

    static int ask(String text) {
        feed(text);
        int question = count(1);
        does("question '" + text + "'", question, EndlessRows::question);
        return question;
    }

    /** Something of everything: a row of each kind, questions, half a text, three sheets, a trace. */
    static void everything() {
        fresh(2);
        sheet(0, 0, 0, 1, 1, 0);
        sheet(1, 1, 3, 5, 7);
        sheet(2, 2, 0, 1, 1, 0, 2, 9);
        does("machine", 0, e -> e.machine(0, 4, 0, 2));
        does("grown", 1, e -> e.grown(0, 0, 2));
        does("ring", 2, e -> e.ring(1, 1, 1, 2));
        does("pair", 3, e -> e.pair(1, 2, 1));
        ask("r1[a]=1");
        does("sought", 4, e -> e.sought(0));
        ask("a<b");
        feed("a=5");
        does("tell", 54, e -> e.act(2, 3, 5));
    }

    /** Thue and Morse's row: whether the digits that are 1 are odd in number. Row 0 of a new object of base 2. */
    static void thueMorse() {
        fresh(2);
        sheet(0, 0, 0, 1, 1, 0);
        does("grown", 0, e -> e.grown(0, 0, 2));
    }

    /** The next row: how many digits (or only those that are not nought) a number has, modulo some. By sheets 4, 5. */
    static void counting(int round, boolean noughtsToo) {
        int base = count(3);
        int[] steps = new int[round * base];
        int[] letters = new int[round];
        for (int i = 0; i < round; i++) {
            letters[i] = i;
            for (int digit = 0; digit < base; digit++) {
                steps[i * base + digit] = digit > 0 || noughtsToo ? (i + 1) % round : i;
            }
        }
        sheet(4, 0, steps);
        sheet(5, 0, letters);
        int row = count(0);
        does("counting", row, e -> e.machine(4, 5, 0, round));
    }

    static void rowsOfOneLetter(int many) {
        does("sheet", 1, e -> e.sheet(3, 0, 1));
        for (int i = 0; i < many; i++) {
            int row = count(0);
            does("ring", row, e -> e.ring(3, 0, 0, 1));
        }
    }

    static void tenRows() {
        fresh(2);
        rowsOfOneLetter(10);
    }

    /** As many a's as told are b: so many states, and one from which nothing is taken. */
    static String times(int n) {
        return "a" + "+a".repeat(n - 1) + "=b";
    }
}
