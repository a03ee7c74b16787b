/**
 * Each sentence of the document on acts, the trace, the host, and status that names a bound: just inside it, at it, and
 * just outside; what is refused changes nothing. The name of a test tells the sentence.
 */
public final class HostEdgesTest extends Court {
    private static final int[] EDGES = {LOWEST, LOWEST + 1, -2, -1, 0, 1, 2, HIGHEST - 1, HIGHEST};
    private static final int[] OUTSIDE = {LOWEST, -102, -101, 101, 102, HIGHEST};

    public static void main(String[] args) {
        fourActsOfRowsThatAreThere();
        actsWrapAround();
        numbersAndWidthsAreThoseOfTheRow();
        theTraceIsOfTheLatestAct();
        theHostDoesSevenThings();
        theHostTakesARowForAKind();
        theHostMakesARow();
        theHostReadsASheet();
        theHostCopiesASheet();
        theHostPutsARowAway();
        theHostDivides();
        theHostThrows();
        questionsLeaveTheStatus();
        eachStatusIsTold();
        fiveHundredAndTwelveCalls();
        end("edges of acts and the host");
    }

    // ---------------------------------------------------------------- acts

    private static void fourActsOfRowsThatAreThere() {
        fresh(2);
        refused("no rows", 1, e -> e.act(0, 0, 0));
        everything();
        for (int none : new int[] {LOWEST, -2, -1, 5, 6, 9, 10, HIGHEST}) {
            refused("act of row " + none, 1, e -> e.act(none, 0, 5));
        }
        for (int none : new int[] {LOWEST, -2, -1, 4, 5, HIGHEST}) {
            refused("act " + none, 1, e -> e.act(0, none, 5));
        }
        is("the trace of the latest one that was not refused", 8, e -> e.count(4));
        does("drop", 4, e -> e.drop(0));
        refused("act of a row that is no more", 1, e -> e.act(4, 0, 5));
    }

    /** What each kind answers, worked out at once in longs and cut to 32 bits. */
    private static long acted(int kind, int act, long x, long n, int k) {
        boolean grown = kind == 1 || kind == 2;
        long y = grown ? (int) (x + 1) : x;
        long read = (grown ? 2 : 1) * (x + n);
        long step = 3 * read + (kind == 2 ? 5 : 0) - (kind == 4 ? 3 : 0);
        long stepOfTell = step + 3 * (grown ? 2 : 1) * (y - x);
        switch (act) {
            case 0: return (int) read;
            case 1: return (int) step;
            case 2: return (int) join(kind, x, n, k);
            default:
                long told = stepOfTell - join(kind, y, n, k);
                return kind == 4 ? (int) join(kind, x, n, k) ^ (int) told : (int) told;
        }
    }

    private static long join(int kind, long x, long n, int k) {
        long plain = (int) x ^ k;
        return kind == 2 ? plain - x : kind == 3 ? plain * n : plain;
    }

    private static void actsWrapAround() {
        int[] widths = {1, 2, 3, 5, 2};
        for (int kind = 0; kind < 5; kind++) {
            everything();
            int row = kind;
            int width = widths[kind];
            is("width of row " + row, width, e -> e.width(row));
            for (int i = 0; i < 4; i++) {
                int act = i;
                for (int x : EDGES) {
                    does("act " + act + " of row " + row + " with " + x, acted(kind, act, x, row, width),
                        e -> e.act(row, act, x));
                }
            }
        }
    }

    /** The same kinds, at other numbers and of other widths. */
    private static void numbersAndWidthsAreThoseOfTheRow() {
        everything();
        sheet(3, 0, 1, 2, 3, 0, 5, 6, 7, 6, 5, 4, 3, 2);
        does("ring", 5, e -> e.ring(3, 0, 6, 6));
        does("pair", 6, e -> e.pair(5, 5, 0));
        does("machine", 7, e -> e.machine(5, 5, 0, 3));
        does("grown", 8, e -> e.grown(0, 0, 2));
        does("sought", 9, e -> e.sought(0));
        int[] kinds = {2, 3, 0, 1, 4};
        int[] widths = {12, 1, 1, 2, 2};
        for (int i = 0; i < 5; i++) {
            int row = i + 5;
            for (int j = 0; j < 4; j++) {
                int act = j;
                does("act " + act + " of row " + row, acted(kinds[i], act, -77, row, widths[i]), e -> e.act(row, act, -77));
                does("act " + act + " of row " + row, acted(kinds[i], act, HIGHEST, row, widths[i]),
                    e -> e.act(row, act, HIGHEST));
            }
        }
    }

    private static void theTraceIsOfTheLatestAct() {
        fresh(2);
        is("no act yet", 0, e -> e.count(4));
        is("no act yet", -1, e -> e.trace(0));
        everything();
        int[] bodies = {21, 13, 30, 11, 20, 10, 31, 12};
        for (int i = 0; i < bodies.length; i++) {
            int place = i;
            is("body " + i, bodies[i], e -> e.trace(place));
        }
        for (int none : new int[] {LOWEST, -2, -1, 8, 9, 49, 50, 51, HIGHEST}) {
            is("body " + none, -1, e -> e.trace(none));
        }
        does("one body", 5, e -> e.act(0, 0, 5));
        is("one body", 1, e -> e.count(4));
        is("body 0", 10, e -> e.trace(0));
        is("body 1 is of an earlier act", -1, e -> e.trace(1));
        refused("a refused act", 1, e -> e.act(0, 4, 5));
        refused("a refused act", 1, e -> e.act(5, 3, 5));
        is("one body", 1, e -> e.count(4));
        does("begin", 1, e -> e.begin(3));
        is("the trace stays, though the row is gone", 10, e -> e.trace(0));
    }

    // ---------------------------------------------------------------- the host

    private static void theHostDoesSevenThings() {
        everything();
        for (int none : new int[] {LOWEST, -2, -1, 7, 8, HIGHEST}) {
            refused("forge " + none, 1, e -> e.forge(none, 1, 1));
        }
        for (int i = 0; i < 7; i++) {
            int what = i;
            for (int none : OUTSIDE) {
                refused("forge " + what + " with n " + none, 1, e -> e.forge(what, none, 1));
                refused("forge " + what + " with k " + none, 1, e -> e.forge(what, 1, none));
            }
        }
        everything();
        does("row 0 for kind 0", 0, e -> e.forge(0, 100, 100));
        does("row 0 for kind 0", 0, e -> e.forge(0, -100, -100));
        does("100 numbers", 100, e -> e.forge(1, 100, 100));
        does("100 numbers", 100, e -> e.forge(1, 100, -100));
        refused("-100 numbers", 13, e -> e.forge(1, -100, 100));
        refused("number 100 of sheet 4", 10, e -> e.forge(2, 100, 100));
        refused("number -100 of sheet 2", 11, e -> e.forge(2, -100, -100));
        refused("100 numbers of sheet 4", 10, e -> e.forge(3, 100, 100));
        refused("row 0 does not fit", 14, e -> e.forge(4, 100, 100));
        refused("row 0 does not fit", 14, e -> e.forge(4, -100, -100));
        does("1000 by 100", 10, e -> e.forge(5, 100, 100));
        does("1000 by -100", -10, e -> e.forge(5, -100, -100));
        refused("none is there", 10, e -> e.forge(6, 100, 100));
        refused("none is there", 10, e -> e.forge(6, -100, -100));
    }

    private static void theHostTakesARowForAKind() {
        // Which of the kinds 0 to 4 a row of each kind can be taken for.
        String[] fits = {"0", "01", "012", "03", "04"};
        int[] turns = {-100, -10, 0, 10, 90};
        for (int row = 0; row < 5; row++) {
            everything();
            for (int kind = 0; kind < 5; kind++) {
                for (int turn : turns) {
                    takesFor(row, kind + turn, row + turn, fits[row].indexOf('0' + kind) >= 0);
                }
                takesFor(row, kind - 5, row, fits[row].indexOf('0' + kind) >= 0);
                takesFor(row, kind + 5, row, fits[row].indexOf('0' + kind) >= 0);
            }
        }
        for (int kind = -2; kind < 7; kind++) {
            int n = kind;
            for (int k : new int[] {-95, -91, -5, -1, 5, 9, 15, 95, 99}) {
                refused("there is no row " + k, 10, e -> e.forge(0, n, k));
            }
        }
        does("row 5", 5, e -> e.ring(0, 0, 0, 1));
        does("there is a row 5", 2, e -> e.forge(0, 1, 5));
        does("there is a row 5", 2, e -> e.forge(0, 1, -5));
        refused("there is no row 6", 10, e -> e.forge(0, 1, 6));
    }

    private static void takesFor(int row, int n, int k, boolean fits) {
        String what = "row " + k + " for kind " + n;
        if (fits) {
            does(what, row, e -> e.forge(0, n, k));
        } else {
            refused(what, 11, e -> e.forge(0, n, k));
        }
    }

    private static void theHostMakesARow() {
        everything();
        for (int n : new int[] {0, 1, 2, 99, 100}) {
            does(n + " numbers", n, e -> e.forge(1, n, 3));
        }
        for (int n : new int[] {-1, -2, -99, -100}) {
            refused(n + " numbers", 13, e -> e.forge(1, n, 3));
        }
        refused("-101 numbers", 1, e -> e.forge(1, -101, 3));
    }

    private static void theHostReadsASheet() {
        everything();
        for (int k = -95; k <= 97; k += 6) {
            int sheet = k;
            does("number 2 of sheet " + k, 7, e -> e.forge(2, 2, sheet));
        }
        does("number 0", 3, e -> e.forge(2, 0, 1));
        for (int none : new int[] {-100, -2, -1, 3, 4, 39, 40, 100}) {
            refused("number " + none, 12, e -> e.forge(2, none, 1));
            refused("number " + none + " of a sheet of sort 0", 11, e -> e.forge(2, none, 0));
            refused("number " + none + " of a sheet of sort 2", 11, e -> e.forge(2, none, 2));
            refused("number " + none + " of no sheet", 10, e -> e.forge(2, none, 3));
        }
        refused("number 0 of a sheet of sort 0", 11, e -> e.forge(2, 0, 0));
        refused("number 0 of a sheet of sort 2", 11, e -> e.forge(2, 0, -4));
        for (int k = -99; k <= 99; k += 6) {
            int sheet = k;
            refused("no sheet " + k, 10, e -> e.forge(2, 0, sheet));
        }
        does("no numbers", 1, e -> e.sheet(5, 1, 0));
        refused("number 0 of none", 12, e -> e.forge(2, 0, 5));
        does("forty numbers", 1, e -> e.sheet(5, 1, 40));
        cell(5, 39, 100);
        does("number 39", 100, e -> e.forge(2, 39, 5));
        refused("number 40", 12, e -> e.forge(2, 40, 5));
    }

    /** So many from number 2 on, to a row of 5 from place n on: as many as the sheet has behind 2, and 2 at most. */
    private static void theHostCopiesASheet() {
        for (int size = 0; size <= 6; size++) {
            everything();
            int[] numbers = {1, 2, 10, 20, 40, 80};
            int many = size;
            does("sheet", 1, e -> e.sheet(3, 0, many));
            for (int i = 0; i < size; i++) {
                cell(3, i, numbers[i]);
            }
            int[] sums = {0, 10, 30};
            for (int n : new int[] {-100, -2, -1, 0, 1, 2, 3, 4, 5, 6, 100}) {
                String what = n + " numbers of " + size;
                if (n >= 0 && n <= 2 && n + 2 <= size) {
                    does(what, sums[n], e -> e.forge(3, n, 3));
                    does(what, sums[n], e -> e.forge(3, n, -99));
                    does(what, sums[n], e -> e.forge(3, n, 99));
                } else {
                    refused(what, 12, e -> e.forge(3, n, 3));
                }
                refused(what + ", another sort", 11, e -> e.forge(3, n, 1));
                refused(what + ", another sort", 11, e -> e.forge(3, n, -4));
                refused(what + ", no sheet", 10, e -> e.forge(3, n, 4));
            }
        }
    }

    private static void theHostPutsARowAway() {
        everything();
        for (int turn : new int[] {-100, -10, 0, 10, 90}) {
            refused("a machine", 14, e -> e.forge(4, 0, turn));
            does("a grown row", 1, e -> e.forge(4, 0, 1 + turn));
            does("a ring", 2, e -> e.forge(4, -100, 2 + turn));
            refused("a pair", 14, e -> e.forge(4, 100, 3 + turn));
            refused("a sought row", 14, e -> e.forge(4, 1, 4 + turn));
            does("there is no row 5", 0, e -> e.forge(4, 0, 5 + turn));
            does("there is no row 9", 0, e -> e.forge(4, 0, 9 + turn));
        }
        does("drop", 4, e -> e.drop(0));
        does("there is no row 4", 0, e -> e.forge(4, 0, 4));
    }

    private static void theHostDivides() {
        everything();
        refused("by 0", 15, e -> e.forge(5, 0, 3));
        int[] quotients = {1000, 500, 333, 250, 200, 166, 142, 125, 111, 100};
        for (int i = 1; i <= 10; i++) {
            int n = i;
            does("by " + n, quotients[i - 1], e -> e.forge(5, n, 3));
            does("by " + -n, -quotients[i - 1], e -> e.forge(5, -n, 3));
        }
        does("by 99", 10, e -> e.forge(5, 99, 3));
        does("by -99", -10, e -> e.forge(5, -99, 3));
        does("by 100", 10, e -> e.forge(5, 100, 3));
        does("by -100", -10, e -> e.forge(5, -100, 3));
    }

    private static void theHostThrows() {
        everything();
        for (int n = -100; n <= 100; n += 100) {
            int even = n;
            refused("none is there", 10, e -> e.forge(6, even, 3));
        }
        refused("none is there", 10, e -> e.forge(6, -2, 3));
        refused("none is there", 10, e -> e.forge(6, 2, 3));
        for (int n : new int[] {-99, -3, -1, 1, 3, 99}) {
            does("it is caught", 1, e -> e.forge(6, n, 3));
        }
    }

    // ---------------------------------------------------------------- status

    private static void askAll(int row, int question) {
        is("count", count(0), e -> e.count(0));
        is("kind", -1, e -> e.kind(row));
        is("letter", -1, e -> e.letter(row, 0));
        is("width", -1, e -> e.width(row));
        is("differ", -2, e -> e.differ(row, row));
        is("told", -1, e -> e.told(question, 0));
        is("step", -1, e -> e.step(question, 0, 0));
        is("takes", -1, e -> e.takes(question, 0));
        is("holds", -1, e -> e.holds(question, 0, 0, 0));
        is("next", -2, e -> e.next(question, 0));
        is("many", -2, e -> e.many(question));
        is("values", -2, e -> e.values(question, 0));
        is("alike", -1, e -> e.alike(question, question));
        is("trace", -1, e -> e.trace(-1));
    }

    private static void questionsLeaveTheStatus() {
        everything();
        askAll(5, 2);
        refused("begin", 1, e -> e.begin(4));
        askAll(5, 2);
        refused("sought", 3, e -> e.sought(1));
        askAll(-1, -1);
        refused("cell", 10, e -> e.cell(4, 0, 0));
        askAll(10, 10);
        refused("forge", 15, e -> e.forge(5, 0, 0));
        askAll(HIGHEST, HIGHEST);
        is("kind of one that is there", 2, e -> e.kind(2));
        is("told of one that is there", 0, e -> e.told(0, 0));
        is("status", 15, e -> e.status());
        does("a call that goes through", 1, e -> e.cell(1, 0, 0));
        askAll(LOWEST, LOWEST);
    }

    /** Each of the calls that are no questions, with each status that it can tell. */
    private static void eachStatusIsTold() {
        everything();
        refused("begin 1", 1, e -> e.begin(1));
        refused("sheet 1", 1, e -> e.sheet(0, 0, 41));
        refused("cell 1", 1, e -> e.cell(0, 0, 101));
        refused("cell 10", 10, e -> e.cell(5, 0, 0));
        refused("cell 12", 12, e -> e.cell(0, 4, 0));
        refused("machine 1", 1, e -> e.machine(0, 0, 0, 0));
        refused("machine 11", 11, e -> e.machine(0, 0, 1, 2));
        refused("machine 12", 12, e -> e.machine(0, 0, 0, 3));
        refused("machine 3", 3, e -> e.machine(0, 0, 0, 1));
        refused("grown 1", 1, e -> e.grown(0, 0, 0));
        refused("grown 10", 10, e -> e.grown(5, 0, 2));
        refused("grown 11", 11, e -> e.grown(0, 1, 2));
        refused("grown 12", 12, e -> e.grown(0, 0, 3));
        refused("grown 3", 3, e -> e.grown(1, 1, 1));
        refused("ring 1", 1, e -> e.ring(0, 0, 0, 0));
        refused("ring 10", 10, e -> e.ring(5, 0, 0, 1));
        refused("ring 11", 11, e -> e.ring(0, 1, 0, 1));
        refused("ring 12", 12, e -> e.ring(0, 0, 3, 2));
        refused("ring 3", 3, e -> e.ring(2, 2, 5, 1));
        refused("pair 1", 1, e -> e.pair(0, 5, 0));
        refused("sought 1", 1, e -> e.sought(2));
        refused("sought 3", 3, e -> e.sought(1));
        refused("feed 1", 1, e -> e.feed(0, 0));
        refused("drop 1", 1, e -> e.drop(2));
        does("question", 2, e -> e.question());
        does("sought of it", 5, e -> e.sought(2));
        refused("drop 3", 3, e -> e.drop(1));
        refused("act 1", 1, e -> e.act(6, 0, 0));
        refused("forge 1", 1, e -> e.forge(7, 0, 0));
        rowsOfOneLetter(4);
        refused("machine 2", 2, e -> e.machine(0, 0, 1, 2));
        refused("grown 2", 2, e -> e.grown(5, 0, 2));
        refused("ring 2", 2, e -> e.ring(5, 0, 0, 1));
        refused("pair 2", 2, e -> e.pair(0, 1, 0));
        refused("sought 2", 2, e -> e.sought(1));
    }

    /** The last ones of 512 calls are answered as the first ones. */
    private static void fiveHundredAndTwelveCalls() {
        for (int base = 2; base < 4; base++) {
            fresh(base);
            counting(5, true);
            rowsOfOneLetter(1);
            while (calls() < 509) {
                int number = calls();
                is("letter of " + number, Long.toString(number, base).length() % 5, e -> e.letter(0, number));
            }
            while (calls() < 511) {
                is("its width", 6, e -> e.width(0));
            }
            while (calls() < 512) {
                count(0);
            }
        }
    }
}
