import java.util.ArrayList;
import java.util.List;

/** Each promise of the document, by answers that were worked out by hand: ordinary, edges, wrong inputs. */
public final class EndlessRowsTest {
    private static final long TOP = 1L << 62;
    private static int wrong = 0;
    private static int asked = 0;
    private static EndlessRows x;

    public static void main(String[] args) {
        promise1();
        promise2();
        promise3();
        promise4();
        promise5();
        promise6();
        promise7();
        promise8();
        promise9();
        promise10();
        promise11();
        faultsOfTokens();
        faultsOfNesting();
        faultsOfNumbers();
        faultsOfNames();
        spentByStates();
        spentByLetters();
        spentBySets();
        promise12();
        promise13();
        promise14();
        promise15();
        promise16();
        promise17();
        promise18();
        promise19();
        promise20();
        promise21();
        meaning();
        promise22();
        promise23();
        promise24();
        promise25();
        promise26();
        promise27();
        promise28();
        promise29();
        System.out.println("promises: " + asked + " answers, " + wrong + " wrong");
        System.exit(wrong > 0 ? 1 : 0);
    }

    // ---------------------------------------------------------------- helpers

    private static void due(String what, long got, long want) {
        asked++;
        if (got != want) {
            wrong++;
            System.out.println(what + ": " + got + ", due is " + want);
        }
    }

    /** A call that is refused: it answers -1, with this status. */
    private static void no(String what, long got, int status) {
        due(what, got, -1);
        due(what + ": status", x.status(), status);
    }

    private static void yes(String what, long got, long want) {
        due(what, got, want);
        due(what + ": status", x.status(), 0);
    }

    private static void fresh(int base) {
        x = new EndlessRows();
        yes("begin", x.begin(base), 1);
    }

    private static void sheet(int sheet, int sort, int... numbers) {
        yes("sheet", x.sheet(sheet, sort, numbers.length), 1);
        for (int i = 0; i < numbers.length; i++) {
            yes("cell", x.cell(sheet, i, numbers[i]), 1);
        }
    }

    private static void feed(String text) {
        for (int at = 0; at < text.length(); at += 8) {
            int n = Math.min(8, text.length() - at);
            long bytes = 0;
            for (int i = 0; i < n; i++) {
                bytes |= (long) text.charAt(at + i) << 8 * i;
            }
            yes("feed", x.feed(n, bytes), at + n);
        }
    }

    private static int ask(String text) {
        feed(text);
        int number = x.question();
        due("'" + text + "': status", x.status(), 0);
        return number;
    }

    /** Thue and Morse's row: 0 grows into 0 1, 1 into 1 0. */
    private static int thueMorse() {
        sheet(0, 0, 0, 1, 1, 0);
        return x.grown(0, 0, 2);
    }

    /** A machine that counts digits that are not nought (or all digits) round and round. */
    private static int counter(int round, boolean noughtsToo) {
        int[] steps = new int[round * x.count(3)];
        int[] letters = new int[round];
        for (int i = 0; i < round; i++) {
            for (int d = 0; d < x.count(3); d++) {
                steps[i * x.count(3) + d] = d > 0 || noughtsToo ? (i + 1) % round : i;
            }
            letters[i] = i;
        }
        sheet(4, 0, steps);
        sheet(5, 0, letters);
        return x.machine(4, 5, 0, round);
    }

    private static void fault(String text, int kind, int place) {
        int q = ask(text);
        due("'" + text + "' fault", x.told(q, 0), kind);
        due("'" + text + "' place", x.told(q, 1), place);
        due("'" + text + "' spent", x.told(q, 2), -1);
        due("'" + text + "' names", x.told(q, 3), -2);
        due("'" + text + "' parts", x.told(q, 7), -2);
        due("'" + text + "' states", x.told(q, 8), -2);
        due("'" + text + "' can't be asked", x.holds(q, 0, 0, 0), -1);
        yes("drop", x.drop(1), q);
    }

    private static void sound(String text, int names, int parts) {
        int q = ask(text);
        due("'" + text + "' fault", x.told(q, 0), 0);
        due("'" + text + "' place", x.told(q, 1), -1);
        due("'" + text + "' spent", x.told(q, 2), -1);
        due("'" + text + "' names", x.told(q, 3), names);
        due("'" + text + "' parts", x.told(q, 7), parts);
        yes("drop", x.drop(1), q);
    }

    private static void spent(String text, int place) {
        int q = ask(text);
        due("'" + text + "' fault", x.told(q, 0), 0);
        due("'" + text + "' spent", x.told(q, 2), place);
        due("'" + text + "' states", x.told(q, 8), place < 0 ? x.told(q, 8) : -2);
        due("'" + text + "' can be asked", x.takes(q, 0) == -1 ? 0 : 1, place < 0 ? 1 : 0);
        yes("drop", x.drop(1), q);
    }

    // ---------------------------------------------------------------- making

    private static void promise1() {
        x = new EndlessRows();
        due("NONE", EndlessRows.NONE, -1);
        due("status of a new one", x.status(), 0);
        int[] counts = {0, 0, 0, 2, 0};
        for (int i = 0; i < counts.length; i++) {
            due("count(" + i + ") of a new one", x.count(i), counts[i]);
        }
        due("trace of a new one", x.trace(0), -1);
        due("kind of a new one", x.kind(0), -1);
        due("told of a new one", x.told(0, 0), -1);
        for (int i = 0; i < 6; i++) {
            no("a sheet of a new one", x.cell(i, 0, 0), 10);
        }
    }

    private static void promise2() {
        fresh(2);
        sheet(0, 0, 0, 1, 1, 0);
        yes("grown", x.grown(0, 0, 2), 0);
        yes("act", x.act(0, 0, 5), 10);
        ask("a = 1");
        feed("a =");
        no("begin(1)", x.begin(1), 1);
        no("begin(4)", x.begin(4), 1);
        no("begin(-2)", x.begin(-2), 1);
        due("rows behind a refused begin", x.count(0), 1);
        due("questions behind a refused begin", x.count(1), 1);
        due("base behind a refused begin", x.count(3), 2);
        yes("begin(3)", x.begin(3), 1);
        due("no rows", x.count(0), 0);
        due("no questions", x.count(1), 0);
        due("the tape stays", x.count(2), 3);
        due("base 3", x.count(3), 3);
        due("the trace stays", x.count(4), 2);
        due("the trace stays", x.trace(0), 20);
        due("no row", x.kind(0), -1);
        due("no question", x.told(0, 0), -1);
        yes("the sheet stays", x.cell(0, 3, 1), 1);
        yes("question of the tape that stayed", x.question(), 0);
        due("its fault", x.told(0, 1), 3);
        yes("begin(2)", x.begin(2), 1);
        due("base 2", x.count(3), 2);
    }

    private static void promise3() {
        fresh(2);
        yes("no numbers", x.sheet(0, 0, 0), 1);
        no("no number 0", x.cell(0, 0, 0), 12);
        yes("40 numbers", x.sheet(5, 2, 40), 1);
        yes("number 39", x.cell(5, 39, 7), 1);
        no("number 40", x.cell(5, 40, 7), 12);
        no("41 numbers", x.sheet(1, 0, 41), 1);
        no("-1 numbers", x.sheet(1, 0, -1), 1);
        no("sort 3", x.sheet(1, 3, 4), 1);
        no("sort -2", x.sheet(1, -2, 4), 1);
        no("sheet 6", x.sheet(6, 0, 4), 1);
        no("sheet -1", x.sheet(-1, 0, 4), 1);
        no("sheet 1 is still missing", x.cell(1, 0, 0), 10);
        no("a refused call", x.sheet(5, 1, 41), 1);
        no("changed nothing", x.forge(2, 39, 5), 11);
        yes("missing, whatever n", x.sheet(5, -1, 1000), 1);
        no("it is missing", x.cell(5, 0, 0), 10);
        yes("there again", x.sheet(5, 1, 40), 1);
        yes("all its numbers are 0", x.forge(2, 39, 5), 0);
        yes("a number", x.cell(5, 3, 9), 1);
        yes("the number", x.forge(2, 3, 5), 9);
        yes("made anew", x.sheet(5, 1, 4), 1);
        yes("0 again", x.forge(2, 3, 5), 0);
    }

    private static void promise4() {
        fresh(2);
        sheet(2, 1, 0, 0, 0);
        yes("100", x.cell(2, 0, 100), 1);
        yes("it is 100", x.forge(2, 0, 2), 100);
        yes("0", x.cell(2, 0, 0), 1);
        yes("it is 0", x.forge(2, 0, 2), 0);
        no("101", x.cell(2, 0, 101), 1);
        no("-1", x.cell(2, 0, -1), 1);
        no("sheet 6", x.cell(6, 0, 1), 1);
        no("sheet -1", x.cell(-1, 0, 1), 1);
        no("missing", x.cell(3, 0, 1), 10);
        no("missing, and 101", x.cell(3, 0, 101), 1);
        no("missing, and outside", x.cell(3, -1, 1), 10);
        no("outside", x.cell(2, 3, 1), 12);
        no("outside below", x.cell(2, -1, 1), 12);
        no("outside, and 101", x.cell(2, 3, 101), 1);
        no("far outside", x.cell(2, Integer.MAX_VALUE, 1), 12);
    }

    private static void promise5() {
        fresh(2);
        sheet(0, 0, 0, 1, 1, 0);
        sheet(1, 0, 3, 5);
        yes("parity", x.machine(0, 1, 0, 2), 0);
        int[] letters = {3, 5, 5, 3, 5, 3, 3, 5};
        for (int i = 0; i < letters.length; i++) {
            due("letter(" + i + ") of parity", x.letter(0, i), letters[i]);
        }
        due("kind", x.kind(0), 0);
        yes("steps missing", x.machine(5, 1, 0, 2), 1);
        due("it stays in 0", x.letter(1, 3), 3);
        yes("letters missing", x.machine(0, 4, 0, 2), 2);
        due("all are 0", x.letter(2, 3), 0);
        yes("both missing, of any sort", x.machine(5, 4, 2, 8), 3);
        yes("one sheet for both", x.machine(0, 0, 0, 2), 4);
        due("its letters", x.letter(4, 1), 1);
        sheet(2, 2, 1, 1, 1, 1);
        sheet(3, 2, 4, 6);
        yes("a first state that is left at once", x.machine(2, 3, 2, 2), 5);
        due("no digits", x.letter(5, 0), 4);
        due("a digit", x.letter(5, 1), 6);
        due("digits", x.letter(5, 2), 6);
        due("a nought ahead is not read", x.width(5), 2);
        no("sheet 6", x.machine(6, 1, 0, 2), 1);
        no("sheet -1", x.machine(0, -1, 0, 2), 1);
        no("sort 3", x.machine(0, 1, 3, 2), 1);
        no("sort -1", x.machine(5, 4, -1, 2), 1);
        no("n 0", x.machine(0, 1, 0, 0), 1);
        no("n 9", x.machine(5, 4, 0, 9), 1);
        no("another sort of steps", x.machine(2, 1, 0, 2), 11);
        no("another sort of letters", x.machine(0, 3, 0, 2), 11);
        no("too few steps", x.machine(0, 4, 0, 3), 12);
        no("too few letters", x.machine(4, 1, 0, 3), 12);
        yes("a step", x.cell(0, 3, 2), 1);
        no("a step that is none", x.machine(0, 1, 0, 2), 3);
        yes("a step again", x.cell(0, 3, 1), 1);
        yes("a letter", x.cell(1, 1, 8), 1);
        no("a letter that is none", x.machine(0, 1, 0, 2), 3);
        yes("but it is not looked at", x.machine(5, 1, 0, 1), 6);
        no("another sort ahead of too few", x.machine(0, 3, 0, 8), 11);
        no("too few letters ahead of a wrong step", x.machine(2, 5, 2, 3), 12);
        for (int i = 7; i < 10; i++) {
            yes("more rows", x.machine(5, 4, 0, 1), i);
        }
        no("no room", x.machine(5, 4, 0, 1), 2);
        no("no room, and another sort", x.machine(2, 1, 0, 2), 2);
        no("no room, and n 9", x.machine(2, 1, 0, 9), 1);
        due("rows", x.count(0), 10);
        fresh(3);
        sheet(0, 1, 0, 1, 2, 1, 2, 0, 2, 0, 1);
        sheet(1, 1, 0, 1, 2);
        yes("sum of digits in base 3", x.machine(0, 1, 1, 3), 0);
        due("8 is 22", x.letter(0, 8), 1);
        due("5 is 12", x.letter(0, 5), 0);
        yes("one state", x.machine(5, 1, 1, 1), 1);
        sheet(2, 1, 0, 1, 2, 1, 2, 0, 2, 0);
        no("eight numbers for nine steps", x.machine(2, 1, 1, 3), 12);
    }

    private static void promise6() {
        fresh(2);
        yes("Thue and Morse", thueMorse(), 0);
        int[] row = {0, 1, 1, 0, 1, 0, 0, 1, 1, 0, 0, 1, 0, 1, 1, 0};
        for (int i = 0; i < row.length; i++) {
            due("letter " + i, x.letter(0, i), row[i]);
        }
        due("kind", x.kind(0), 1);
        no("one letter of the same numbers", x.grown(0, 0, 1), 3);
        sheet(1, 2, 0, 0, 9);
        yes("one letter", x.grown(1, 2, 1), 1);
        due("all the same", x.letter(1, 77), 0);
        no("sheet 6", x.grown(6, 0, 2), 1);
        no("sheet -1", x.grown(-1, 0, 2), 1);
        no("sort 3", x.grown(0, 3, 2), 1);
        no("sort -1", x.grown(5, -1, 2), 1);
        no("n 0", x.grown(0, 0, 0), 1);
        no("n 9", x.grown(0, 0, 9), 1);
        no("missing", x.grown(5, 0, 2), 10);
        no("another sort", x.grown(0, 1, 2), 11);
        no("another sort, too few", x.grown(0, 1, 8), 11);
        no("too few", x.grown(0, 0, 3), 12);
        yes("cell", x.cell(0, 1, 2), 1);
        no("a letter that is none", x.grown(0, 0, 2), 3);
        yes("cell", x.cell(0, 1, 1), 1);
        yes("cell", x.cell(0, 0, 1), 1);
        no("0 does not begin with 0", x.grown(0, 0, 2), 3);
        yes("cell", x.cell(0, 0, 0), 1);
        for (int i = 2; i < 10; i++) {
            yes("more rows", x.grown(0, 0, 2), i);
        }
        no("no room", x.grown(0, 0, 2), 2);
        no("no room, and missing", x.grown(5, 0, 2), 2);
        no("no room, and n 9", x.grown(0, 0, 9), 1);
        fresh(3);
        sheet(0, 0, 0, 1, 0, 2, 2, 1, 0, 0, 0);
        yes("base 3", x.grown(0, 0, 3), 0);
        int[] three = {0, 1, 0, 2, 2, 1, 0, 1, 0, 0, 0, 0, 0, 0, 0, 2, 2, 1};
        for (int i = 0; i < three.length; i++) {
            due("base 3, letter " + i, x.letter(0, i), three[i]);
        }
        sheet(1, 0, 0, 1, 0, 1);
        no("four numbers for two letters", x.grown(1, 0, 2), 12);
    }

    private static void promise7() {
        fresh(2);
        sheet(0, 0, 5, 6, 1, 2, 3, 8);
        yes("a ring", x.ring(0, 0, 2, 3), 0);
        int[] row = {5, 6, 1, 2, 3, 1, 2, 3, 1};
        for (int i = 0; i < row.length; i++) {
            due("letter " + i, x.letter(0, i), row[i]);
        }
        due("far", x.letter(0, TOP), 3);
        due("kind", x.kind(0), 2);
        yes("no beginning", x.ring(0, 0, 0, 1), 1);
        due("always 5", x.letter(1, 12345), 5);
        no("a letter that is none", x.ring(0, 0, 3, 3), 3);
        no("too few", x.ring(0, 0, 6, 1), 12);
        no("begin 7", x.ring(0, 0, 7, 1), 1);
        no("begin -1", x.ring(0, 0, -1, 1), 1);
        no("length 0", x.ring(0, 0, 1, 0), 1);
        no("length 7", x.ring(0, 0, 1, 7), 1);
        no("sheet 6", x.ring(6, 0, 1, 1), 1);
        no("sheet -1", x.ring(-1, 0, 1, 1), 1);
        no("sort 3", x.ring(0, 3, 1, 1), 1);
        no("sort -1", x.ring(0, -1, 1, 1), 1);
        no("missing", x.ring(1, 0, 1, 1), 10);
        no("another sort", x.ring(0, 2, 1, 1), 11);
        no("another sort, too few", x.ring(0, 2, 6, 6), 11);
        sheet(1, 2, 0, 1, 2, 3, 4, 5, 6, 7, 0, 1, 2, 3);
        yes("all of it", x.ring(1, 2, 6, 6), 2);
        due("letter 11", x.letter(2, 11), 3);
        due("letter 12", x.letter(2, 12), 6);
        for (int i = 3; i < 10; i++) {
            yes("more rows", x.ring(0, 0, 1, 1), i);
        }
        no("no room", x.ring(0, 0, 1, 1), 2);
        no("no room, and missing", x.ring(5, 0, 1, 1), 2);
        no("no room, and length 7", x.ring(5, 0, 1, 7), 1);
    }

    private static void promise8() {
        fresh(2);
        thueMorse();
        sheet(1, 0, 0, 1, 7);
        yes("ring", x.ring(1, 0, 0, 3), 1);
        yes("same", x.pair(0, 1, 0), 2);
        yes("sum", x.pair(0, 1, 1), 3);
        yes("greater", x.pair(0, 1, 2), 4);
        int[][] want = {{1, 1, 0, 1, 1, 0, 1, 1}, {0, 2, 0, 0, 2, 7, 0, 2}, {0, 1, 7, 0, 1, 7, 0, 1}};
        for (int way = 0; way < 3; way++) {
            for (int i = 0; i < 8; i++) {
                due("way " + way + ", letter " + i, x.letter(2 + way, i), want[way][i]);
            }
        }
        due("kind", x.kind(2), 3);
        yes("with itself", x.pair(0, 0, 0), 5);
        due("always the same", x.width(5), 1);
        no("way 3", x.pair(0, 1, 3), 1);
        no("way -1", x.pair(0, 1, -1), 1);
        no("no row 6", x.pair(0, 6, 0), 1);
        no("no row 6", x.pair(6, 0, 0), 1);
        no("no row -1", x.pair(-1, 0, 0), 1);
        for (int i = 6; i < 10; i++) {
            yes("more rows", x.pair(0, 1, 1), i);
        }
        no("no room", x.pair(0, 1, 1), 2);
        no("no room, and way 3", x.pair(0, 1, 3), 1);
        fresh(2);
        counter(3, false);
        counter(4, false);
        counter(5, false);
        yes("twelve", x.pair(0, 1, 1), 3);
        due("width of twelve", x.width(3), 12);
        yes("sixty", x.pair(3, 2, 1), 4);
        due("width of sixty", x.width(4), 60);
        due("a letter", x.letter(4, (1L << 59) - 1), (59 % 3 + 59 % 4 + 59 % 5) % 8);
        counter(7, false);
        no("420", x.pair(4, 5, 1), 3);
        due("rows", x.count(0), 6);
        fresh(2);
        counter(3, true);
        counter(4, true);
        counter(5, true);
        yes("twelve and the first one", x.pair(0, 1, 1), 3);
        due("width", x.width(3), 13);
        no("sixty and the first one", x.pair(3, 2, 1), 3);
        sheet(0, 0, 0);
        for (int i = 4; i < 10; i++) {
            yes("more rows", x.ring(0, 0, 0, 1), i);
        }
        no("no room ahead of too wide", x.pair(3, 2, 1), 2);
    }

    private static void promise9() {
        fresh(2);
        thueMorse();
        due("odious", ask("r0[a] = 1"), 0);
        due("broken", ask("a ="), 1);
        due("two names", ask("a = b"), 2);
        due("no name", ask("0 = 0"), 3);
        yes("sought", x.sought(0), 1);
        due("kind", x.kind(1), 4);
        for (int i = 0; i < 20; i++) {
            due("letter " + i, x.letter(1, i), Integer.bitCount(i) % 2);
        }
        due("the same row", x.differ(0, 1), -1);
        no("a fault", x.sought(1), 3);
        no("two names", x.sought(2), 3);
        no("no name", x.sought(3), 3);
        no("no question 4", x.sought(4), 1);
        no("no question -1", x.sought(-1), 1);
        counter(6, false);
        counter(7, false);
        yes("42 states", x.pair(2, 3, 1), 4);
        ask("r4[a] = 0");
        due("spent", x.told(4, 2), 6);
        no("spent", x.sought(4), 3);
        for (int i = 5; i < 10; i++) {
            yes("more rows", x.sought(0), i);
        }
        no("no room", x.sought(0), 2);
        no("no room, and a fault", x.sought(1), 2);
        no("no room, and no question", x.sought(5), 1);
    }

    // ---------------------------------------------------------------- texts

    private static void promise10() {
        fresh(2);
        yes("a byte", x.feed(1, 'a'), 1);
        yes("the lowest first", x.feed(2, ' ' + ('=' << 8)), 3);
        yes("the higher ones do not matter", x.feed(1, -1L << 8 | '5'), 4);
        no("none", x.feed(0, 5), 1);
        no("nine", x.feed(9, 5), 1);
        no("fewer than none", x.feed(-1, 5), 1);
        due("four bytes", x.count(2), 4);
        yes("question", x.question(), 0);
        due("a =5", x.next(0, -1), 5);
        due("only 5", x.many(0), 1);
        for (int i = 1; i <= 14; i++) {
            yes("eight blanks", x.feed(8, 0x2020202020202020L), i * 8);
        }
        yes("119 bytes", x.feed(7, 0x20202020202020L), 119);
        no("121", x.feed(2, 0x2020), 2);
        due("119 still", x.count(2), 119);
        no("none, and no room", x.feed(9, 5), 1);
        yes("120", x.feed(1, 0xFF), 120);
        no("121", x.feed(1, 0x20), 2);
        yes("question", x.question(), 1);
        due("a byte that begins none", x.told(1, 0), 1);
        due("its place", x.told(1, 1), 119);
        due("the tape is empty", x.count(2), 0);
    }

    private static void promise11() {
        fresh(2);
        yes("of an empty tape", x.question(), 0);
        due("its fault", x.told(0, 0), 1);
        due("its place", x.told(0, 1), 0);
        for (int i = 1; i < 10; i++) {
            due("question", ask("a = " + i), i);
            due("the tape is empty", x.count(2), 0);
            due("what holds", x.next(i, -1), i);
        }
        feed("a = 1");
        no("there are 10", x.question(), 2);
        due("the tape is empty then, too", x.count(2), 0);
        due("questions", x.count(1), 10);
        yes("drop", x.drop(1), 9);
        due("there is room again", ask("a = 77"), 9);
        due("what holds", x.next(9, -1), 77);
    }

    // kind 1: what can't stand there.
    private static void faultsOfTokens() {
        fresh(2);
        thueMorse();
        fault(" ", 1, 1);
        fault("a", 1, 1);
        fault("a =", 1, 3);
        fault("a =  ", 1, 5);
        fault("a = 1 b", 1, 6);
        fault("123 = a", 1, 0);
        fault("a = 123", 1, 4);
        fault("a = 1 2", 1, 6);
        fault("a = i", 1, 4);
        fault("a = aa", 1, 4);
        fault("a = r", 1, 4);
        fault("a = r0", 1, 4);
        fault("r = a", 1, 0);
        fault("r 0[a] = 1", 1, 0);
        fault("rr0[a] = 1", 1, 0);
        fault("r00[a] = 1", 1, 2);
        fault("r0[1] = 1", 1, 3);
        fault("r0[a] < 1", 1, 6);
        fault("r0[a] = b", 1, 8);
        fault("r0[a] = 1 + 1", 1, 10);
        fault("r0[a + b + c] = 1", 1, 9);
        fault("r0[a + r0] = 1", 1, 7);
        fault("r0[a + b]", 1, 9);
        fault("r0[a + b = 1", 1, 9);
        fault("r0(a) = 1", 1, 2);
        fault("a < = 1", 1, 4);
        fault("a =< 1", 1, 3);
        fault("a == 1", 1, 3);
        fault("a = 1 = b", 1, 6);
        fault("a + = 1", 1, 4);
        fault("a = 1 and", 1, 9);
        fault("and a = 1", 1, 0);
        fault("a = 1 so", 1, 8);
        fault("not", 1, 3);
        fault("not and", 1, 4);
        fault("all a", 1, 5);
        fault("all 1 (a = 1)", 1, 4);
        fault("is i a = 1", 1, 3);
        fault("is a, a = 1", 1, 4);
        fault("a = 1)", 1, 5);
        fault("(a = 1", 1, 6);
        fault("()", 1, 1);
        fault("a = 1 not a = 1", 1, 6);
        fault("a = 1 is b b = 1", 1, 6);
        fault("nota = 1", 1, 0);
        fault("az = 1", 1, 0);
        fault("zz = 1", 1, 0);
        fault("ull a a = 1", 1, 0);
        fault("us a a = 1", 1, 0);
        fault("bot a = 1", 1, 0);
        fault("a = 1 bnd a = 1", 1, 6);
        fault("a = 1 pr a = 1", 1, 6);
        fault("a = 1 no a = 1", 1, 6);
        fault("a = 1 ands a = 1", 1, 6);
        fault("a+".repeat(60), 1, 120);
        fault("a+".repeat(59) + "a", 1, 119);
        fault("a+".repeat(58) + "a=b)", 1, 119);
        fault("or0 = 0", 1, 0);
        fault("A = 1", 1, 0);
        fault("a\t= 1", 1, 1);
        fault("a = 1\u0000", 1, 5);
        fault("a = 1\u00a0", 1, 5);
        fault("a - 1 = b", 1, 2);
        fault("a = 1 ; i", 1, 6);
        fault("a = 1 so ) and 123", 1, 9);
        sound("a=1", 1, 1);
        sound("  a  <=  1  ", 1, 1);
        sound("r0 [ a ] = 1", 1, 1);
        sound("r0[a]=r0[b+0]", 2, 1);
        sound("0=0or0=0so0=0", 0, 5);
        sound("not0=0", 0, 2);
        sound("is a(a=1)", 0, 2);
        sound("00 = 07", 0, 1);
        sound("h = g + f", 3, 1);
    }

    // kind 1: a NOT in 10 others.
    private static void faultsOfNesting() {
        fresh(2);
        sound("(".repeat(9) + "a = 1" + ")".repeat(9), 1, 1);
        fault("(".repeat(10) + "a = 1" + ")".repeat(10), 1, 10);
        fault("(".repeat(11), 1, 10);
        fault("(".repeat(10), 1, 10);
        fault("(".repeat(9), 1, 9);
        sound("not ".repeat(9) + "a = 1", 1, 10);
        fault("not ".repeat(10) + "a = 1", 1, 40);
        fault("not ".repeat(11) + "a = 1", 1, 40);
        sound("not (".repeat(4) + "not a = 1" + ")".repeat(4), 1, 6);
        fault("not (".repeat(5) + "a = 1" + ")".repeat(5), 1, 25);
        sound("all a is b all c is d all e is f all g is h not a = 1", 0, 10);
        fault("all a is b all c is d all e is f all g is h not not a = 1", 1, 52);
        sound("a = 1 and " + "(".repeat(9) + "a = 1" + ")".repeat(9) + " or " + "(".repeat(9) + "a = 1" + ")".repeat(9), 1, 5);
        fault("((((((((((i", 1, 10);
    }

    // kind 2, in the order of tokens.
    private static void faultsOfNumbers() {
        fresh(2);
        thueMorse();
        fault("r1[a] = 1", 2, 0);
        fault("a = 1 and r9[a] = 0", 2, 10);
        fault("r0[a] = r1[a]", 2, 8);
        fault("r0[a] = 8", 2, 8);
        fault("r0[a] = 99", 2, 8);
        sound("r0[a] = 7", 1, 1);
        fault("r0[a + 4] = 1", 2, 7);
        sound("r0[a + 3] = 1", 1, 1);
        fault("a + 50 + 50 = b", 2, 9);
        sound("a + 50 + 49 = b", 2, 1);
        fault("50 + a + 49 + 1 + 7 = b", 2, 14);
        fault("a = 99 + 1", 2, 9);
        sound("99 + a = 99 + 0", 1, 1);
        counter(7, false);
        counter(6, false);
        due("width 7", x.width(1), 7);
        due("width 6", x.width(2), 6);
        sound("r1[a] = 1", 1, 1);
        fault("r1[a + b] = 1", 2, 0);
        fault("r1[a + 0] = 1", 2, 0);
        fault("r0[a] = r1[a + 1]", 2, 8);
        sound("r2[a + 0] = 1", 1, 1);
        sound("r2[a + b] = 1", 2, 1);
        fault("r1[a + 9] = 9", 2, 0);
        fault("r2[a + 9] = 9", 2, 7);
        fault("r0[a] = 9 and r5[a] = 1", 2, 8);
        fault("r9[a] = 1 and", 1, 13);
        fault("a = b + c + d and r9[a] = 1", 2, 18);
    }

    // kind 2: bound already; kind 3: more than three names, by parts in the order in which they end.
    private static void faultsOfNames() {
        fresh(2);
        fault("all a all a a = 1", 2, 10);
        fault("is a not (b = 1 or all a a = 1)", 2, 23);
        fault("all a (is b b = 1 and is a a = b)", 2, 25);
        sound("is a a = 1 and is a a = 2", 0, 5);
        sound("a = 1 and is a a = 2", 1, 4);
        fault("a = b + c + d", 3, 2);
        fault("a + b < c + d", 3, 6);
        sound("a = b + c", 3, 1);
        fault("a = b + c and c = d", 3, 10);
        fault("is d a = b + c + d", 3, 7);
        fault("is d (a = b and c = d)", 3, 12);
        sound("is d (a = d) and b = c", 3, 4);
        fault("not (a = b or c = d)", 3, 11);
        fault("a = b and (c = d and e = f)", 3, 17);
        fault("a = b so c = d so e = f", 3, 15);
        fault("a = b or c = d or e = f", 3, 6);
        fault("a = b and c = d and e = f", 3, 6);
        fault("a + d < d + b + c", 3, 6);
    }

    // As many a's as one likes are b: so many states, and one from which nothing is taken.
    private static String times(int n) {
        return "a" + "+a".repeat(n - 1) + "=b";
    }

    private static void spentByStates() {
        fresh(2);
        spent(times(59), 117);
        spent(times(39), -1);
        spent(times(40), 79);
        ask(times(39));
        due("40 states", x.told(0, 8), 40);
        ask("c = 0 and not " + times(40));
        due("spent at", x.told(1, 2), 93);
        due("names", x.told(1, 3), 3);
        due("first name", x.told(1, 4), 0);
        due("third name", x.told(1, 6), 2);
        due("parts", x.told(1, 7), 4);
        due("states", x.told(1, 8), -2);
        fresh(3);
        spent(times(39), -1);
        spent(times(40), 79);
        fresh(2);
        counter(5, false);
        counter(8, false);
        counter(6, false);
        counter(7, false);
        spent("r0[a] = 0 and r1[a] = 0", -1);
        spent("r2[a] = 0 and r3[a] = 0", 10);
        spent("r2[a] = 0 or r3[a] = 0", 10);
        spent("r2[a] = 0 so r3[a] = 0", 10);
        spent("not (r2[a] = 0 and r3[b] = 0)", 15);
        spent("r0[a] = r1[b]", -1);
        spent("r2[a] = r3[b]", 6);
        spent("is b (r2[a] = 0 and r3[b] = 0) or r2[c] = r3[a]", 16);
        spent("a = 0 so (b = 0 so (r2[a] = 0 or r3[a] = 0) and r2[c] = r3[a])", 30);
    }

    // The machine that tells the letters counts, though that of the atom may be small.
    private static void spentByLetters() {
        fresh(2);
        counter(6, false);
        counter(7, false);
        counter(5, false);
        counter(8, false);
        yes("42", x.pair(0, 1, 0), 4);
        yes("40", x.pair(2, 3, 0), 5);
        due("width", x.width(4), 42);
        due("width", x.width(5), 40);
        spent("r4[a] = 7", 6);
        spent("r5[a] = 7", -1);
        ask("r5[a] = 7");
        due("one state", x.told(0, 8), 1);
        spent("r0[a] = r4[a]", 6);
        spent("r4[b] = r4[b]", 6);
        spent("r5[b] = r5[b]", -1);
        counter(8, true);
        counter(5, true);
        yes("40 and the first one", x.pair(6, 7, 1), 8);
        due("width", x.width(8), 41);
        spent("0 = 0 and r8[a] = 7", 16);
    }

    // Found by a search with the oracle: all of these hold always or never, so that only the sets are many.
    private static void spentBySets() {
        fresh(2);
        sheet(0, 0, 0, 1, 0, 0);
        yes("grown", x.grown(0, 0, 2), 0);
        spent("is b (a + a < c + b + 53 or r0[a + b] = 0)", -1);
        spent("all b not (a + a < c + b + 53 or r0[a + b] = 0)", -1);
        spent("is b (a + a < c + b + b + 52 or r0[a + b] = 1)", -1);
        spent("is b (a < c + b + 76 or r0[a + b] = 0)", 0);
        spent("all b not (a < c + b + 76 or r0[a + b] = 0)", 0);
        spent("not is b (a < c + b + 72 so r0[a + b] = 1)", 4);
        ask("is b (a + a < c + b + 53 or r0[a + b] = 0)");
        due("one state", x.told(0, 8), 1);
        due("it always holds", x.takes(0, 0), 1);
        ask("a + a < c + b + b + 52 or r0[a + b] = 1");
        due("forty states", x.told(1, 8), 40);
    }

    // ---------------------------------------------------------------- asking

    private static void promise12() {
        fresh(2);
        no("no row", x.drop(0), 3);
        no("no question", x.drop(1), 3);
        no("what 2", x.drop(2), 1);
        no("what -1", x.drop(-1), 1);
        thueMorse();
        thueMorse();
        due("question", ask("r1[a] = 1"), 0);
        no("a question names it", x.drop(0), 3);
        yes("sought", x.sought(0), 2);
        no("a row is sought of it", x.drop(1), 3);
        yes("the row", x.drop(0), 2);
        no("named still", x.drop(0), 3);
        yes("the question", x.drop(1), 0);
        yes("named no more", x.drop(0), 1);
        due("rows", x.count(0), 1);
        due("a question with a fault", ask("r0[a] = 9"), 0);
        due("questions", x.count(1), 1);
        yes("it names nothing", x.drop(0), 0);
        thueMorse();
        counter(6, false);
        counter(7, false);
        yes("42", x.pair(1, 2, 0), 3);
        due("spent", ask("r3[a] = 0 and r0[a] = 0"), 1);
        due("spent", x.told(1, 2), 6);
        no("a spent one names it", x.drop(0), 3);
        yes("the spent one", x.drop(1), 1);
        yes("named no more", x.drop(0), 3);
        due("question", ask("a = 1"), 1);
        due("question", ask("a = 2"), 2);
        yes("sought of the earlier one", x.sought(1), 3);
        yes("the later one", x.drop(1), 2);
        no("the earlier one", x.drop(1), 3);
        yes("one more", x.pair(0, 0, 0), 4);
        yes("a pair", x.drop(0), 4);
        due("rows", x.count(0), 4);
        fresh(2);
        ask("a = 1");
        yes("the first row", x.sought(0), 0);
        no("the first question", x.drop(1), 3);
        due("a row names itself in the next one", ask("r0[a] = 1"), 1);
        no("the first row", x.drop(0), 3);
    }

    private static void promise13() {
        fresh(3);
        sheet(0, 0, 0);
        yes("ring", x.ring(0, 0, 0, 1), 0);
        yes("ring", x.ring(0, 0, 0, 1), 1);
        ask("a = 1");
        feed("all");
        yes("act", x.act(0, 3, 0), 12);
        int[] counts = {2, 1, 3, 3, 8};
        for (int i = 0; i < counts.length; i++) {
            due("count(" + i + ")", x.count(i), counts[i]);
        }
        due("count(-1)", x.count(-1), -1);
        due("count(5)", x.count(5), -1);
        due("count(MIN)", x.count(Integer.MIN_VALUE), -1);
    }

    private static void promise14() {
        fresh(2);
        thueMorse();
        yes("machine", x.machine(5, 5, 0, 1), 1);
        yes("ring", x.ring(0, 0, 0, 1), 2);
        yes("pair", x.pair(0, 1, 0), 3);
        ask("a = 1");
        yes("sought", x.sought(0), 4);
        int[] kinds = {1, 0, 2, 3, 4, -1};
        for (int i = 0; i < kinds.length; i++) {
            due("kind(" + i + ")", x.kind(i), kinds[i]);
        }
        due("kind(-1)", x.kind(-1), -1);
        yes("drop", x.drop(0), 4);
        due("no row 4", x.kind(4), -1);
    }

    private static void promise15() {
        fresh(2);
        thueMorse();
        for (int i = 0; i < 500; i++) {
            due("letter " + i, x.letter(0, i), Integer.bitCount(i) % 2);
        }
        due("the last one", x.letter(0, TOP), 1);
        due("ahead of it", x.letter(0, TOP - 1), 62 % 2);
        due("above it", x.letter(0, TOP + 1), -1);
        due("below 0", x.letter(0, -1), -1);
        due("far below 0", x.letter(0, Long.MIN_VALUE), -1);
        due("no row", x.letter(1, 0), -1);
        due("no row", x.letter(-1, 0), -1);
        fresh(3);
        sheet(0, 0, 0, 1, 2, 3, 4, 5);
        yes("ring", x.ring(0, 0, 1, 5), 0);
        long[] far = {TOP, TOP - 1, 4052555153018976267L, 4052555153018976266L, 1L << 31, 1000000007L};
        for (long number : far) {
            due("letter " + number, x.letter(0, number), 1 + (number - 1) % 5);
        }
    }

    private static void promise16() {
        fresh(2);
        thueMorse();
        due("Thue and Morse", x.width(0), 2);
        due("no row", x.width(1), -1);
        due("no row", x.width(-1), -1);
        sheet(1, 0, 7, 7, 7, 7, 7, 7, 7, 7, 7, 7, 7, 7);
        yes("a long way round", x.ring(1, 0, 6, 6), 1);
        due("all the same", x.width(1), 1);
        sheet(1, 0, 0, 1, 0, 1);
        yes("parity", x.ring(1, 0, 2, 2), 2);
        due("parity", x.width(2), 2);
        sheet(1, 0, 0, 1, 2);
        yes("modulo 3", x.ring(1, 0, 0, 3), 3);
        due("modulo 3", x.width(3), 3);
        yes("both", x.pair(0, 3, 1), 4);
        due("both", x.width(4), 6);
        counter(8, true);
        due("eight, and one for the noughts ahead", x.width(5), 9);
        counter(8, false);
        due("eight", x.width(6), 8);
        ask("a = 5");
        yes("sought", x.sought(0), 7);
        due("nothing, 1, 10, 101, and else", x.width(7), 5);
    }

    private static void promise17() {
        fresh(2);
        thueMorse();
        sheet(1, 0, 0, 1, 1, 0, 1, 0, 0, 0);
        yes("like it at first", x.ring(1, 0, 6, 2), 1);
        due("seven is", x.differ(0, 1), 7);
        due("seven is", x.differ(1, 0), 7);
        due("not from itself", x.differ(0, 0), -1);
        yes("the same again", x.grown(0, 0, 2), 2);
        due("nor from one like it", x.differ(0, 2), -1);
        due("no row", x.differ(0, 3), -2);
        due("no row", x.differ(3, 0), -2);
        due("no row", x.differ(-1, 0), -2);
        yes("number 0", x.cell(1, 0, 5), 1);
        yes("unlike at once", x.ring(1, 0, 6, 2), 3);
        due("0 is", x.differ(0, 3), 0);
        // Rows of 0 for as many digits as can be divided by 35, or by 42, else of 1.
        for (int base = 2; base < 4; base++) {
            fresh(base);
            divided(5, 0);
            divided(7, 0);
            divided(6, 0);
            yes("by 35", x.pair(0, 1, 2), 3);
            yes("by 42", x.pair(2, 1, 2), 4);
            yes("always 1", x.pair(0, 0, 0), 5);
            due("35 digits", x.differ(3, 5), base == 2 ? 1L << 34 : 16677181699666569L);
            due("42 digits", x.differ(5, 4), base == 2 ? 1L << 41 : -3);
            due("35 digits", x.differ(4, 3), base == 2 ? 1L << 34 : 16677181699666569L);
            // 28 digits are in both; the next are 63 in the one, 70 in the other.
            divided(5, 3);
            divided(6, 4);
            yes("28 and 35 more", x.pair(6, 1, 2), 8);
            yes("28 and 42 more", x.pair(7, 1, 2), 9);
            due("63 digits", x.differ(8, 9), base == 2 ? TOP : -3);
        }
    }

    /** A machine of 0 for as many digits as leave this rest when divided by n (at least one), else of 1. */
    private static void divided(int n, int rest) {
        int base = x.count(3);
        int[] steps = new int[(n + 1) * base];
        int[] letters = new int[n + 1];
        for (int i = 0; i <= n; i++) {
            for (int d = 0; d < base; d++) {
                steps[i * base + d] = i == n ? 1 : i + 1;
            }
            letters[i] = i > 0 && i % n == rest ? 0 : 1;
        }
        sheet(4, 0, steps);
        sheet(5, 0, letters);
        due("made", x.machine(4, 5, 0, n + 1) >= 0 ? 1 : 0, 1);
    }

    private static void promise18() {
        fresh(2);
        ask("c = a + h");
        int[] first = {0, -1, -1, 3, 0, 2, 7, 1};
        for (int i = 0; i < first.length; i++) {
            due("told(0, " + i + ")", x.told(0, i), first[i]);
        }
        ask("is b (a = b or not a < 3) and all c c = c");
        int[] second = {0, -1, -1, 1, 0, -1, -1, 8, 1};
        for (int i = 0; i < second.length; i++) {
            due("told(1, " + i + ")", x.told(1, i), second[i]);
        }
        ask("0 < 1");
        int[] third = {0, -1, -1, 0, -1, -1, -1, 1, 1};
        for (int i = 0; i < third.length; i++) {
            due("told(2, " + i + ")", x.told(2, i), third[i]);
        }
        ask("a = 5 and");
        int[] broken = {1, 9, -1, -2, -2, -2, -2, -2, -2, -1};
        for (int i = 0; i < broken.length; i++) {
            due("told(3, " + i + ")", x.told(3, i), broken[i]);
        }
        due("what -1", x.told(0, -1), -1);
        due("what 9", x.told(0, 9), -1);
        due("what -1 of a fault", x.told(3, -1), -1);
        due("no question 4", x.told(4, 0), -1);
        due("no question -1", x.told(-1, 3), -1);
        ask("a = 5");
        due("nothing, 1, 10, 101, and else", x.told(4, 8), 5);
    }

    private static void promise19() {
        fresh(2);
        ask("a < b");
        int[][] steps = {{0, 1, 2, 0}, {1, 1, 1, 1}, {2, 2, 2, 2}};
        for (int i = 0; i < 3; i++) {
            for (int d = 0; d < 4; d++) {
                due("a < b, step " + i + " " + d, x.step(0, i, d), steps[i][d]);
            }
        }
        due("digits 4", x.step(0, 0, 4), -1);
        due("digits -1", x.step(0, 0, -1), -1);
        due("state 3", x.step(0, 3, 0), -1);
        due("state -1", x.step(0, -1, 0), -1);
        due("no question", x.step(1, 0, 0), -1);
        due("no question", x.step(-1, 0, 0), -1);
        ask("a <");
        due("a fault", x.step(1, 0, 0), -1);
        ask(times(40));
        due("spent", x.step(2, 0, 0), -1);
        ask("0 = 1");
        due("no names", x.step(3, 0, 0), 0);
        due("no names, digits 1", x.step(3, 0, 1), -1);
        ask("a = 5");
        int[][] five = {{0, 1}, {2, 3}, {3, 4}, {3, 3}, {3, 3}};
        for (int i = 0; i < 5; i++) {
            for (int d = 0; d < 2; d++) {
                due("a = 5, step " + i + " " + d, x.step(4, i, d), five[i][d]);
            }
        }
        ask("c = 1 and b = 0 and a = 0");
        int[] bits = {0, 1, 2, 2, 2, 2, 2, 2};
        for (int d = 0; d < 8; d++) {
            due("the first name counts most, " + d, x.step(5, 0, d), bits[d]);
        }
        fresh(3);
        ask("b < a");
        int[] three = {0, 1, 1, 2, 0, 1, 2, 2, 0};
        for (int d = 0; d < 9; d++) {
            due("base 3, " + d, x.step(0, 0, d), three[d]);
        }
    }

    private static void promise20() {
        fresh(2);
        ask("a < b");
        int[] takes = {0, 1, 0, -1};
        for (int i = 0; i < 4; i++) {
            due("a < b, takes " + i, x.takes(0, i), takes[i]);
        }
        due("state -1", x.takes(0, -1), -1);
        due("no question", x.takes(1, 0), -1);
        due("no question", x.takes(-1, 0), -1);
        ask("a <= b");
        int[] most = {1, 1, 0};
        for (int i = 0; i < 3; i++) {
            due("a <= b, takes " + i, x.takes(1, i), most[i]);
        }
        ask("b <= a");
        int[] least = {1, 0, 1};
        for (int i = 0; i < 3; i++) {
            due("b <= a, takes " + i, x.takes(2, i), least[i]);
        }
        ask("a <");
        due("a fault", x.takes(3, 0), -1);
        ask(times(40));
        due("spent", x.takes(4, 0), -1);
        ask("0 = 1");
        due("never", x.takes(5, 0), 0);
        ask("0 = 0");
        due("always", x.takes(6, 0), 1);
    }

    private static void promise21() {
        fresh(2);
        ask("c + a = h");
        due("3 + 4 = 7", x.holds(0, 3, 4, 7), 1);
        due("3 + 4 = 8", x.holds(0, 3, 4, 8), 0);
        due("far", x.holds(0, TOP - 5, 5, TOP), 1);
        due("far, not so", x.holds(0, TOP - 5, 4, TOP), 0);
        due("first above", x.holds(0, TOP + 1, 0, 0), -1);
        due("second above", x.holds(0, 0, TOP + 1, 0), -1);
        due("third above", x.holds(0, 0, 0, TOP + 1), -1);
        due("first below", x.holds(0, -1, 0, 0), -1);
        due("second below", x.holds(0, 0, -1, 0), -1);
        due("third below", x.holds(0, 0, 0, -1), -1);
        ask("b < a");
        due("two names", x.holds(1, 5, 4, -1), 1);
        due("the first one is a", x.holds(1, 4, 5, Long.MAX_VALUE), 0);
        due("second outside", x.holds(1, 4, -1, 0), -1);
        ask("a = 5");
        due("one name", x.holds(2, 5, -1, -1), 1);
        due("first outside", x.holds(2, -5, 1, 1), -1);
        ask("0 = 0");
        due("no names", x.holds(3, -1, -1, -1), 1);
        ask("a =");
        due("a fault", x.holds(4, 1, 1, 1), -1);
        ask(times(40));
        due("spent", x.holds(5, 1, 40, 1), -1);
        due("no question", x.holds(6, 1, 1, 1), -1);
        due("no question", x.holds(-1, 1, 1, 1), -1);
    }

    private interface Holds {
        boolean of(int a, int b);
    }

    /** A question of a (and b) holds just for those numbers. */
    private static void means(String text, Holds holds) {
        int q = ask(text);
        int names = x.told(q, 3);
        due("'" + text + "' fault", x.told(q, 0), 0);
        for (int a = 0; a < (names == 0 ? 1 : 40); a++) {
            for (int b = 0; b < (names < 2 ? 1 : 40); b++) {
                due("'" + text + "' for " + a + ", " + b, x.holds(q, a, b, 0), holds.of(a, b) ? 1 : 0);
            }
        }
        yes("drop", x.drop(1), q);
    }

    private static boolean odious(int number) {
        return Integer.bitCount(number) % 2 == 1;
    }

    private static void meaning() {
        fresh(2);
        thueMorse();
        sheet(1, 0, 1, 1, 0, 2, 3);
        yes("ring", x.ring(1, 0, 2, 3), 1);
        int[] ring = {1, 1, 0, 2, 3};
        means("a = 1 or a = 2 and a = 3", (a, b) -> a == 1);
        means("a = 1 and a = 2 or a = 3", (a, b) -> a == 3);
        means("(a = 1 or a = 2) and a <= 1", (a, b) -> a == 1);
        means("not a = 1 and a <= 2", (a, b) -> a == 0 || a == 2);
        means("not (a = 1 and a <= 2)", (a, b) -> a != 1);
        means("a = 1 so a = 2 so a = 3", (a, b) -> true);
        means("(a = 1 so a = 2) so a = 3", (a, b) -> a == 1 || a == 3);
        means("a = 1 or a = 2 so a = 2", (a, b) -> a != 1);
        means("not not a = 4", (a, b) -> a == 4);
        means("all b b <= a and a = 0", (a, b) -> false);
        means("is b a = b + b", (a, b) -> a % 2 == 0);
        means("is b a = b + b + b + 2", (a, b) -> a % 3 == 2);
        means("is b (a = b + b and r0[b] = 1)", (a, b) -> a % 2 == 0 && odious(a));
        means("all c (c < a so c + c < b)", (a, b) -> a == 0 || 2 * a - 2 < b);
        means("all a is b a < b", (a, b) -> true);
        means("is b all a a < b", (a, b) -> false);
        means("is a all b a <= b", (a, b) -> true);
        means("is a all b b <= a", (a, b) -> false);
        means("is b a = 7", (a, b) -> a == 7);
        means("all b a = 7", (a, b) -> a == 7);
        means("r0[a] = 1", (a, b) -> odious(a));
        means("r0[a + 3] = 1", (a, b) -> odious(a + 3));
        means("r0[a + b] = 1", (a, b) -> odious(a + b));
        means("r0[b + a] = r0[a]", (a, b) -> odious(a + b) == odious(a));
        means("r0[a + a] = r0[b + 1]", (a, b) -> odious(a) == odious(b + 1));
        means("r1[a] = 0", (a, b) -> a >= 2 && a % 3 == 2);
        means("r1[b + 2] = r0[a + 1]", (a, b) -> ring[2 + b % 3] == (odious(a + 1) ? 1 : 0));
        means("r1[a] = r1[b + 1]", (a, b) -> ring[a < 2 ? a : 2 + (a - 2) % 3] == ring[b < 1 ? 1 : 2 + (b - 1) % 3]);
        means("a + 5 <= b + b", (a, b) -> a + 5 <= 2 * b);
        means("a + a + 3 = b + 10", (a, b) -> 2 * a + 3 == b + 10);
        means("b + 99 < a + 98 + 1", (a, b) -> b < a);
        means("a + b < b + 4", (a, b) -> a < 4);
        means("is c (a = c + b and not c = 0)", (a, b) -> a > b);
        means("is d is e (a = d + d + d + e + e + e + e + e)", (a, b) -> a != 1 && a != 2 && a != 4 && a != 7);
        fresh(3);
        sheet(0, 0, 0, 1, 2, 1, 2, 0, 2, 0, 1);
        yes("sums of digits", x.grown(0, 0, 3), 0);
        means("r0[a] = 2", (a, b) -> digits(a) % 3 == 2);
        means("r0[a + b] = 1", (a, b) -> digits(a + b) % 3 == 1);
        means("r0[a + 2] = r0[b + b]", (a, b) -> digits(a + 2) % 3 == digits(2 * b) % 3);
        means("is b (a = b + b + b and b < 5)", (a, b) -> a % 3 == 0 && a < 15);
        means("all c (a < c so b < c)", (a, b) -> b <= a);
    }

    private static int digits(int number) {
        return number == 0 ? 0 : number % 3 + digits(number / 3);
    }

    private static void promise22() {
        fresh(2);
        thueMorse();
        ask("r0[a] = 1");
        int above = -1;
        for (int i = 0; i < 100; i++) {
            if (odious(i)) {
                due("next(" + above + ")", x.next(0, above), i);
                above = i;
            }
        }
        due("at the top", x.next(0, TOP - 1), TOP);
        due("above the top", x.next(0, TOP), -3);
        due("-2", x.next(0, -2), -2);
        due("above 2 to the 62", x.next(0, TOP + 1), -2);
        ask("a < 5");
        due("the first one", x.next(1, -1), 0);
        due("the last one", x.next(1, 3), 4);
        due("none", x.next(1, 4), -1);
        due("none", x.next(1, TOP), -1);
        ask("a = b");
        due("two names", x.next(2, 0), -2);
        ask("0 = 0");
        due("no names", x.next(3, 0), -2);
        ask("a =");
        due("a fault", x.next(4, 0), -2);
        due("no question", x.next(5, 0), -2);
        due("no question", x.next(-1, 0), -2);
        ask("not a = a");
        due("never", x.next(5, -1), -1);
        for (int base = 2; base < 4; base++) {
            fresh(base);
            divided(5, 0);
            divided(7, 0);
            ask("r0[a] = 0 and r1[a] = 0");
            due("endlessly many, though far between", x.many(0), -1);
            long least = base == 2 ? 1L << 34 : 16677181699666569L;
            due("35 digits", x.next(0, -1), least);
            due("one more", x.next(0, least), least + 1);
            due("70 digits", x.next(0, TOP - 1), -3);
            due("70 digits", x.next(0, least * base - 1), -3);
            due("the last one", x.next(0, least * base - 2), least * base - 1);
            ask("is b a = b + b");
            due("up to the top", x.next(1, TOP - 2), TOP);
            due("up to the top", x.next(1, TOP - 1), TOP);
            due("above it", x.next(1, TOP), -3);
        }
        fresh(3);
        ask("is b (a = b + b + b + 1)");
        due("behind 40", x.next(0, 40), 43);
        due("behind 43", x.next(0, 43), 46);
        ask(times(40).replace("b", "40"));
        due("a single name", x.next(1, -1), 1);
    }

    private static void promise23() {
        fresh(2);
        thueMorse();
        long[] want = {5, -1, 0, 4, 16, -1};
        String[] texts = {"a < 5", "a = a", "not a = a", "r0[a] = 1 and a < 8", "r0[a] = 1 and a < 32", "3 < a"};
        for (int i = 0; i < want.length; i++) {
            ask(texts[i]);
            due("'" + texts[i] + "'", x.many(i), want[i]);
        }
        ask("a < b");
        due("two names", x.many(6), -2);
        ask("0 = 0");
        due("no names", x.many(7), -2);
        ask("a <");
        due("a fault", x.many(8), -2);
        due("no question", x.many(9), -2);
        due("no question", x.many(-1), -2);
        counter(6, false);
        counter(7, false);
        yes("42", x.pair(1, 2, 0), 3);
        ask("r3[a] = 0");
        due("spent", x.many(9), -2);
        fresh(3);
        ask("0 < a and a < 50");
        due("49", x.many(0), 49);
    }

    private static void promise24() {
        fresh(2);
        ask("a < b");
        long[] seconds = {0, 1, 7, 1000, (1L << 30) - 1, 1L << 30};
        for (long second : seconds) {
            due("a < b for " + second, x.values(0, second), second);
        }
        due("above 2 to the 30", x.values(0, (1L << 30) + 1), -2);
        due("below 0", x.values(0, -1), -2);
        ask("b <= a");
        due("endlessly many", x.values(1, 3), -1);
        ask("a + b = 10");
        due("for 3", x.values(2, 3), 1);
        due("for 10", x.values(2, 10), 1);
        due("for 11", x.values(2, 11), 0);
        ask("a = 5");
        due("one name", x.values(3, 5), -2);
        ask("a + b = c");
        due("three names", x.values(4, 5), -2);
        ask("a = b and");
        due("a fault", x.values(5, 5), -2);
        ask(times(40));
        due("spent", x.values(6, 5), -2);
        due("no question", x.values(7, 5), -2);
        due("no question", x.values(-1, 5), -2);
        divided(5, 0);
        divided(7, 0);
        yes("drop", x.drop(1), 6);
        ask("r0[a] = 0 and r1[a] = 0 and b = 1");
        due("endlessly many, though far between", x.values(6, 1), -1);
        due("none", x.values(6, 2), 0);
        ask("b < a and (b = 3 so a < 9)");
        due("a few", x.values(7, 3), 5);
        due("endlessly many", x.values(7, 4), -1);
        fresh(3);
        ask("c < f + f + f + f + f + f + f + f + f + 2");
        for (long second : seconds) {
            due("c < 9 f + 2 for " + second, x.values(0, second), 9 * second + 2);
        }
    }

    private static void promise25() {
        fresh(2);
        thueMorse();
        ask("a < b");
        ask("c < h");
        ask("not h <= c");
        ask("b < a");
        ask("a < 3");
        ask("a <= 2");
        ask("a <");
        ask("r0[a + 2] = 1");
        ask("is h (h = a + 2 and r0[h] = 1)");
        ask("a < 3 and 0 = 0");
        due("other names", x.alike(0, 1), 1);
        due("told otherwise", x.alike(1, 2), 1);
        due("itself", x.alike(3, 3), 1);
        due("turned around", x.alike(0, 3), 0);
        due("fewer names", x.alike(0, 4), 0);
        due("the same numbers", x.alike(4, 5), 1);
        due("other numbers", x.alike(5, 7), 0);
        due("a sum in an index", x.alike(7, 8), 1);
        due("with what is always so", x.alike(4, 9), 1);
        due("a fault", x.alike(0, 6), -1);
        due("a fault", x.alike(6, 0), -1);
        due("a fault", x.alike(6, 6), -1);
        due("no question", x.alike(0, 10), -1);
        due("no question", x.alike(-1, 0), -1);
        yes("drop", x.drop(1), 9);
        ask(times(40));
        due("spent", x.alike(9, 9), -1);
        fresh(2);
        thueMorse();
        sheet(1, 0, 0, 1, 0, 0);
        yes("grown", x.grown(1, 0, 2), 1);
        ask("r0[a] = 1");
        ask("r1[a] = 1");
        due("unlike in one step by 0", x.alike(0, 1), 0);
        due("unlike in one step by 0", x.alike(1, 0), 0);
        fresh(2);
        ask("0 = 0");
        ask("a = a");
        ask("0 = 1");
        due("one state each, but no name and one", x.alike(0, 1), 0);
        due("always and never", x.alike(0, 2), 0);
    }

    // ---------------------------------------------------------------- acts and the host

    private static void fiveKinds() {
        fresh(2);
        sheet(0, 0, 0, 1, 1, 0);
        sheet(1, 0, 3, 5);
        yes("machine", x.machine(0, 1, 0, 2), 0);
        yes("grown", x.grown(0, 0, 2), 1);
        yes("ring", x.ring(0, 0, 0, 2), 2);
        yes("pair", x.pair(0, 0, 0), 3);
        ask("a = 1");
        yes("sought", x.sought(0), 4);
        int[] widths = {2, 2, 2, 1, 3};
        for (int i = 0; i < 5; i++) {
            due("width " + i, x.width(i), widths[i]);
        }
    }

    private static void promise26() {
        fiveKinds();
        int[][] want = {{5, 15, 7, 8}, {12, 36, 7, 38}, {14, 47, 2, 55}, {8, 24, 12, 12}, {9, 24, 6, 20}};
        for (int row = 0; row < 5; row++) {
            for (int act = 0; act < 4; act++) {
                yes("act(" + row + ", " + act + ", 5)", x.act(row, act, 5), want[row][act]);
            }
        }
        yes("wrapping", x.act(0, 1, Integer.MAX_VALUE), 2147483645);
        yes("wrapping", x.act(1, 0, Integer.MAX_VALUE), 0);
        yes("any number", x.act(0, 0, -1), -1);
        yes("wrapping", x.act(2, 2, Integer.MIN_VALUE), 2);
        yes("wrapping", x.act(3, 2, Integer.MAX_VALUE), (Integer.MAX_VALUE - 1) * 3);
        no("no row", x.act(5, 0, 0), 1);
        no("no row", x.act(-1, 0, 0), 1);
        no("act 4", x.act(0, 4, 0), 1);
        no("act -1", x.act(0, -1, 0), 1);
    }

    private static void promise27() {
        fiveKinds();
        due("nothing ran", x.trace(0), -1);
        String[][] want = {
            {"10", "11 10", "12", "13 11 10 12"},
            {"20 10", "11 20 10", "12", "21 13 11 20 10 12"},
            {"20 10", "30 11 20 10", "31 12", "21 13 30 11 20 10 31 12"},
            {"10", "11 10", "40 12", "13 11 10 40 12"},
            {"10", "50 11 10", "12", "51 12 13 50 11 10 12"}};
        for (int row = 0; row < 5; row++) {
            for (int act = 0; act < 4; act++) {
                x.act(row, act, 5);
                List<String> ran = new ArrayList<>();
                for (String body : want[row][act].split(" ")) {
                    due("trace of " + row + ", " + act, x.trace(ran.size()), Integer.parseInt(body));
                    ran.add(body);
                }
                due("behind the last one", x.trace(ran.size()), -1);
                due("how many", x.count(4), ran.size());
            }
        }
        due("-1", x.trace(-1), -1);
        due("50", x.trace(50), -1);
        no("refused", x.act(9, 0, 0), 1);
        due("the trace stays", x.count(4), 7);
        due("the trace stays", x.trace(0), 51);
        yes("read", x.act(0, 0, 0), 0);
        due("the latest act's alone", x.count(4), 1);
        due("the latest act's alone", x.trace(1), -1);
    }

    private static void promise28() {
        fiveKinds();
        no("what 7", x.forge(7, 0, 0), 1);
        no("what -1", x.forge(-1, 0, 0), 1);
        no("n 101", x.forge(1, 101, 0), 1);
        no("n -101", x.forge(1, -101, 0), 1);
        no("k 101", x.forge(1, 0, 101), 1);
        no("k -101", x.forge(1, 0, -101), 1);
        yes("n 100, k 100", x.forge(1, 100, 100), 100);
        yes("n -100, k -100", x.forge(5, -100, -100), -10);
        boolean[][] fits = {
            {true, false, false, false, false},
            {true, true, false, false, false},
            {true, true, true, false, false},
            {true, false, false, true, false},
            {true, false, false, false, true}};
        for (int row = 0; row < 5; row++) {
            for (int kind = 0; kind < 5; kind++) {
                for (int n = kind - 20; n <= kind + 5; n += 5) {
                    if (fits[row][kind]) {
                        yes("row " + row + " for " + n, x.forge(0, n, row - 30), row);
                    } else {
                        no("row " + row + " for " + n, x.forge(0, n, row + 40), 11);
                    }
                }
            }
            if (row == 1 || row == 2) {
                yes("put " + row, x.forge(4, 0, row - 10), row);
            } else {
                no("put " + row, x.forge(4, 0, row + 90), 14);
            }
        }
        no("no row 5", x.forge(0, 0, 5), 10);
        no("no row 9", x.forge(0, 3, -1), 10);
        yes("no row 5", x.forge(4, 0, 5), 0);
        yes("no row 9", x.forge(4, 7, -1), 0);
        no("below 0", x.forge(1, -1, 0), 13);
        yes("0", x.forge(1, 0, 0), 0);
        forgeSheets();
        no("by 0", x.forge(5, 0, 0), 15);
        yes("by 7", x.forge(5, 7, 0), 142);
        yes("by -7", x.forge(5, -7, 0), -142);
        yes("by -1", x.forge(5, -1, 0), -1000);
        yes("by 1", x.forge(5, 1, 0), 1000);
        no("none is there", x.forge(6, 0, 0), 10);
        no("none is there", x.forge(6, -4, 0), 10);
        yes("caught", x.forge(6, 1, 0), 1);
        yes("caught", x.forge(6, -3, 0), 1);
        due("nothing else changed", x.count(0), 5);
    }

    private static void forgeSheets() {
        sheet(2, 0, 1, 2, 30, 40);
        sheet(3, 1, 5, 6, 7);
        sheet(4, 2, 8, 9, 10);
        for (int k = -30; k <= 30; k += 6) {
            yes("number 2", x.forge(2, 2, 3 + k), 7);
            yes("two numbers", x.forge(3, 2, 2 + k), 70);
        }
        no("missing", x.forge(2, 0, 5), 10);
        no("another sort", x.forge(2, 0, 2), 11);
        no("another sort", x.forge(2, -5, 4), 11);
        no("outside", x.forge(2, 3, 3), 12);
        no("outside below", x.forge(2, -1, 3), 12);
        no("missing", x.forge(3, 0, 5), 10);
        no("missing, and below 0", x.forge(3, -1, -1), 10);
        no("another sort", x.forge(3, 0, 3), 11);
        no("another sort", x.forge(3, 9, 4), 11);
        no("below 0", x.forge(3, -1, 2), 12);
        yes("none", x.forge(3, 0, 2), 0);
        yes("one", x.forge(3, 1, 2), 30);
        no("three do not stand there", x.forge(3, 3, 2), 12);
        sheet(2, 0, 1, 2, 3, 4, 5, 6, 7);
        yes("two", x.forge(3, 2, 2), 7);
        no("three from place 3 on", x.forge(3, 3, 2), 12);
        sheet(2, 0, 1, 2, 3);
        yes("one", x.forge(3, 1, 2), 3);
        no("two", x.forge(3, 2, 2), 12);
        sheet(2, 0, 1, 2);
        yes("none", x.forge(3, 0, 2), 0);
        no("one", x.forge(3, 1, 2), 12);
        sheet(2, 0, 1);
        no("fewer than 2", x.forge(3, 0, 2), 12);
    }

    private static void promise29() {
        x = new EndlessRows();
        due("of a new one", x.status(), 0);
        no("begin", x.begin(0), 1);
        x.count(0);
        x.kind(-5);
        x.letter(7, 7);
        x.width(7);
        x.differ(7, 7);
        x.told(7, 7);
        x.step(7, 7, 7);
        x.takes(7, 7);
        x.holds(7, 7, 7, 7);
        x.next(7, 7);
        x.many(7);
        x.values(7, 7);
        x.alike(7, 7);
        x.trace(7);
        due("questions leave it", x.status(), 1);
        due("status leaves it", x.status(), 1);
        yes("sheet", x.sheet(0, 0, 4), 1);
        no("missing", x.cell(1, 0, 0), 10);
        x.count(0);
        due("questions leave it", x.status(), 10);
        yes("cell", x.cell(0, 0, 0), 1);
        no("another sort", x.grown(0, 1, 2), 11);
        yes("grown", x.grown(0, 0, 2), 0);
        no("below 0", x.forge(1, -1, 0), 13);
        yes("act", x.act(0, 0, 1), 2);
        no("what does not fit", x.sought(0), 1);
        yes("question", x.question(), 0);
        no("not so", x.sought(0), 3);
        yes("feed", x.feed(1, 32), 1);
        no("feed", x.feed(0, 32), 1);
        yes("pair", x.pair(0, 0, 0), 1);
        no("by 0", x.forge(5, 0, 0), 15);
        yes("drop", x.drop(0), 1);
        no("outside", x.cell(0, 4, 0), 12);
        yes("begin", x.begin(2), 1);
    }
}
