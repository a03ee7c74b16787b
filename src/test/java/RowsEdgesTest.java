import java.util.Arrays;

/**
 * Each sentence of the document on sheets and rows that names a bound: just inside it, at it, and just outside; what is
 * refused changes nothing. The name of a test tells the sentence.
 */
public final class RowsEdgesTest extends Court {
    public static void main(String[] args) {
        aNewObjectHasNothing();
        theBaseIsTwoOrThree();
        beginLeavesSheetsTapeAndTrace();
        thereAreSixSheets();
        aSheetHasUpToFortyNumbers();
        aSheetIsMadeAnewOfNoughts();
        aCellIsOfASheetThatIsThere();
        aMachineHasOneToEightStates();
        aMachineNeedsEnoughNumbers();
        aMachinesStepsAndLettersAreSuch();
        aMachineWithoutSheets();
        aMachinesStatusesGoInOrder();
        noughtsAheadAreNotRead();
        aGrownRowHasOneToEightLetters();
        aGrownRowNeedsEnoughNumbers();
        aGrownRowsLettersAreSuch();
        aGrownRowsStatusesGoInOrder();
        aRingBeginsAndGoesAround();
        aRingsLettersAreSuch();
        aRingsStatusesGoInOrder();
        aPairIsOfRowsThatAreThere();
        aPairsSumIsModuloEight();
        aPairTellsTheSameOrTheGreater();
        aPairIsSixtyWide();
        aPairThatTellsLittleIsSixtyWide();
        aSoughtRowIsOfOneName();
        thereAreTenRows();
        theLatestRowIsDropped();
        theLatestQuestionIsDropped();
        fiveCountsAreKept();
        aKindIsOfARow();
        aLetterIsOfNumbersUpToTheTop();
        aWidthIsOfARow();
        rowsDifferAtTheTop();
        rowsDifferAtTheTopInBaseThree();
        rowsDifferAtNoughtOrNowhere();
        end("edges of rows");
    }

    // ---------------------------------------------------------------- a new object, begin, sheets

    private static void aNewObjectHasNothing() {
        fresh();
        is("status", 0, e -> e.status());
        is("the base is 2", 2, e -> e.count(3));
        is("no rows", 0, e -> e.count(0));
        is("no questions", 0, e -> e.count(1));
        is("an empty tape", 0, e -> e.count(2));
        is("an empty trace", 0, e -> e.count(4));
        is("no row 0", -1, e -> e.kind(0));
        is("no question 0", -1, e -> e.told(0, 0));
        is("no body 0", -1, e -> e.trace(0));
        for (int i = 0; i < 6; i++) {
            int sheet = i;
            refused("sheet " + i + " is missing", 10, e -> e.cell(sheet, 0, 0));
            refused("sheet " + i + " is missing", 10, e -> e.forge(2, 0, sheet));
        }
        refused("no row to drop", 3, e -> e.drop(0));
        refused("no question to drop", 3, e -> e.drop(1));
        is("NONE", -1, e -> EndlessRows.NONE);
    }

    private static void theBaseIsTwoOrThree() {
        fresh();
        does("begin(3)", 1, e -> e.begin(3));
        is("base 3", 3, e -> e.count(3));
        does("begin(2)", 1, e -> e.begin(2));
        is("base 2", 2, e -> e.count(3));
        everything();
        for (int none : new int[] {LOWEST, -3, -2, -1, 0, 1, 4, 5, HIGHEST}) {
            refused("begin(" + none + ")", 1, e -> e.begin(none));
        }
        is("base 2 still", 2, e -> e.count(3));
        does("begin(3)", 1, e -> e.begin(3));
        refused("begin(1)", 1, e -> e.begin(1));
        refused("begin(4)", 1, e -> e.begin(4));
        is("base 3 still", 3, e -> e.count(3));
    }

    private static void beginLeavesSheetsTapeAndTrace() {
        everything();
        does("begin with the same base", 1, e -> e.begin(2));
        is("no rows", 0, e -> e.count(0));
        is("no row", -1, e -> e.width(0));
        is("no questions", 0, e -> e.count(1));
        is("no question", -1, e -> e.takes(0, 0));
        is("the tape", 3, e -> e.count(2));
        is("the trace", 8, e -> e.count(4));
        is("the trace's last body", 12, e -> e.trace(7));
        does("a sheet's number", 7, e -> e.forge(2, 2, 1));
        does("the tape's text", 0, EndlessRows::question);
        is("holds for 5 alone", 5, e -> e.next(0, -1));
        is("holds for 5 alone", 1, e -> e.many(0));
    }

    private static void thereAreSixSheets() {
        everything();
        for (int none : new int[] {LOWEST, -2, -1, 6, 7, HIGHEST}) {
            refused("sheet " + none, 1, e -> e.sheet(none, 0, 4));
            refused("sheet " + none + " missing", 1, e -> e.sheet(none, -1, 0));
            refused("cell of " + none, 1, e -> e.cell(none, 0, 0));
            refused("steps of " + none, 1, e -> e.machine(none, 0, 0, 2));
            refused("letters of " + none, 1, e -> e.machine(0, none, 0, 2));
            refused("grown of " + none, 1, e -> e.grown(none, 0, 2));
            refused("ring of " + none, 1, e -> e.ring(none, 0, 1, 1));
        }
        for (int i = 0; i < 6; i++) {
            int sheet = i;
            does("sheet " + i, 1, e -> e.sheet(sheet, 1, 2));
            does("cell of " + i, 1, e -> e.cell(sheet, 1, sheet + 10));
        }
        for (int i = 0; i < 6; i++) {
            int sheet = i;
            does("each has its own", i + 10, e -> e.forge(2, 1, sheet));
        }
    }

    private static void aSheetHasUpToFortyNumbers() {
        everything();
        for (int none : new int[] {LOWEST, -3, -2, 3, 4, HIGHEST}) {
            refused("sort " + none, 1, e -> e.sheet(1, none, 4));
        }
        for (int none : new int[] {LOWEST, -2, -1, 41, 42, HIGHEST}) {
            refused(none + " numbers", 1, e -> e.sheet(1, 1, none));
        }
        for (int many : new int[] {0, 1, 2, 39, 40}) {
            for (int i = 0; i < 3; i++) {
                int sort = i;
                does(many + " numbers of sort " + i, 1, e -> e.sheet(1, sort, many));
                refused("number " + many, 12, e -> e.cell(1, many, 5));
                if (many > 0) {
                    does("number " + (many - 1), 1, e -> e.cell(1, many - 1, 5));
                }
            }
        }
        for (int whatever : new int[] {LOWEST, -1, 0, 40, 41, HIGHEST}) {
            does("a sheet", 1, e -> e.sheet(1, 1, 4));
            does("missing, with " + whatever, 1, e -> e.sheet(1, -1, whatever));
            refused("it is missing", 10, e -> e.cell(1, 0, 0));
        }
        does("missing already", 1, e -> e.sheet(1, -1, 4));
    }

    private static void aSheetIsMadeAnewOfNoughts() {
        fresh(2);
        sheet(3, 1, 100, 100, 100);
        does("made anew, longer", 1, e -> e.sheet(3, 1, 40));
        for (int i = 0; i < 40; i++) {
            int place = i;
            does("number " + i, 0, e -> e.forge(2, place, 3));
        }
        does("a number", 1, e -> e.cell(3, 39, 1));
        does("shorter", 1, e -> e.sheet(3, 1, 39));
        does("longer again", 1, e -> e.sheet(3, 1, 40));
        does("nothing of it is left", 0, e -> e.forge(2, 39, 3));
        does("a number", 1, e -> e.cell(3, 39, 1));
        does("missing", 1, e -> e.sheet(3, -1, 0));
        does("there again", 1, e -> e.sheet(3, 1, 40));
        does("nothing of it is left", 0, e -> e.forge(2, 39, 3));
    }

    private static void aCellIsOfASheetThatIsThere() {
        everything();
        for (int number : new int[] {0, 1, 99, 100}) {
            does("becomes " + number, 1, e -> e.cell(1, 2, number));
            does("it is " + number, number, e -> e.forge(2, 2, 1));
        }
        for (int none : new int[] {LOWEST, -2, -1, 101, 102, HIGHEST}) {
            refused("becomes " + none, 1, e -> e.cell(1, 2, none));
            refused("becomes " + none + ", sheet missing", 1, e -> e.cell(4, 0, none));
            refused("becomes " + none + ", place outside", 1, e -> e.cell(1, 3, none));
        }
        does("the first place", 1, e -> e.cell(1, 0, 50));
        for (int none : new int[] {LOWEST, -2, -1, 3, 4, 39, 40, HIGHEST}) {
            refused("place " + none, 12, e -> e.cell(1, none, 1));
            refused("place " + none + ", sheet missing", 10, e -> e.cell(4, none, 1));
            refused("place " + none + " of no sheet", 1, e -> e.cell(6, none, 1));
        }
    }

    // ---------------------------------------------------------------- machines

    private static void aMachineHasOneToEightStates() {
        everything();
        for (int none : new int[] {LOWEST, -1, 0, 9, 10, HIGHEST}) {
            refused(none + " states", 1, e -> e.machine(0, 4, 0, none));
            refused(none + " states, both missing", 1, e -> e.machine(4, 5, 0, none));
        }
        for (int none : new int[] {LOWEST, -2, -1, 3, 4, HIGHEST}) {
            refused("sort " + none, 1, e -> e.machine(0, 4, none, 2));
            refused("sort " + none + ", both missing", 1, e -> e.machine(4, 5, none, 2));
        }
        for (int base = 2; base < 4; base++) {
            fresh(base);
            for (int i = 0; i < 3; i++) {
                int sort = i;
                does("one state", 2 * i, e -> e.machine(4, 5, sort, 1));
                does("eight states", 2 * i + 1, e -> e.machine(4, 5, sort, 8));
            }
        }
    }

    private static void aMachineNeedsEnoughNumbers() {
        for (int base = 2; base < 4; base++) {
            for (int n = 1; n <= 8; n++) {
                int many = n;
                fresh(base);
                sheetOf(0, 1, n * base, n - 1);
                sheetOf(1, 1, n, 7);
                sheetOf(2, 1, n * base - 1, 0);
                sheetOf(3, 1, n - 1, 0);
                does(n + " states", 0, e -> e.machine(0, 1, 1, many));
                refused("a step too few", 12, e -> e.machine(2, 1, 1, many));
                refused("a letter too few", 12, e -> e.machine(0, 3, 1, many));
                refused("both too few", 12, e -> e.machine(2, 3, 1, many));
                refused("letters missing, a step too few", 12, e -> e.machine(2, 4, 1, many));
                refused("steps missing, a letter too few", 12, e -> e.machine(4, 3, 1, many));
                does("steps missing", 1, e -> e.machine(4, 1, 1, many));
                does("letters missing", 2, e -> e.machine(0, 4, 1, many));
            }
        }
    }

    private static void aMachinesStepsAndLettersAreSuch() {
        for (int n : new int[] {1, 2, 8}) {
            fresh(2);
            sheetOf(0, 2, n * 2, n - 1);
            sheetOf(1, 2, n, 7);
            does("the last state, the last letter", 0, e -> e.machine(0, 1, 2, n));
            does("cell", 1, e -> e.cell(0, n * 2 - 1, n));
            refused("a step to state " + n, 3, e -> e.machine(0, 1, 2, n));
            does("cell", 1, e -> e.cell(0, n * 2 - 1, 100));
            refused("a step to state 100", 3, e -> e.machine(0, 1, 2, n));
            does("cell", 1, e -> e.cell(0, n * 2 - 1, 0));
            does("cell", 1, e -> e.cell(0, 0, n));
            refused("the first step", 3, e -> e.machine(0, 1, 2, n));
            does("cell", 1, e -> e.cell(0, 0, 0));
            does("cell", 1, e -> e.cell(1, n - 1, 8));
            refused("letter 8", 3, e -> e.machine(0, 1, 2, n));
            refused("letter 8, steps missing", 3, e -> e.machine(4, 1, 2, n));
            does("cell", 1, e -> e.cell(1, n - 1, 7));
            does("letter 7", 1, e -> e.machine(0, 1, 2, n));
        }
        fresh(3);
        sheet(0, 0, 1, 1, 1, 0, 0, 0, 2, 2, 2);
        sheet(1, 0, 7, 7, 8);
        does("what stands behind it does not matter", 0, e -> e.machine(0, 1, 0, 2));
        refused("it does for three", 3, e -> e.machine(0, 1, 0, 3));
        refused("a step that is none for one", 3, e -> e.machine(0, 1, 0, 1));
    }

    private static void aMachineWithoutSheets() {
        fresh(3);
        sheet(0, 2, 6, 5, 4, 3, 2, 1, 0, 7);
        does("all go to state 0", 0, e -> e.machine(5, 0, 2, 8));
        for (long number : new long[] {0, 1, 2, 3, 100, TOP}) {
            is("the letter of state 0", 6, e -> e.letter(0, number));
        }
        is("one state is enough", 1, e -> e.width(0));
        sheet(1, 2, 1, 2, 3, 3, 3, 3, 3, 3, 3, 0, 0, 0);
        does("all letters are 0", 1, e -> e.machine(1, 5, 2, 4));
        for (long number : new long[] {0, 1, 2, 3, 100, TOP}) {
            is("letter 0", 0, e -> e.letter(1, number));
        }
        is("one state is enough", 1, e -> e.width(1));
        for (int sort = 0; sort < 3; sort++) {
            int any = sort;
            does("both are missing", sort + 2, e -> e.machine(3, 4, any, 8));
        }
        refused("steps of another sort, letters missing", 11, e -> e.machine(1, 5, 1, 4));
        refused("letters of another sort, steps missing", 11, e -> e.machine(5, 0, 0, 8));
    }

    /** Each sheet of steps and of letters with each other one, with and without what goes ahead. */
    private static void aMachinesStatusesGoInOrder() {
        // Good; of another sort; too few; with a number that is none; missing.
        int[] whys = {0, 11, 12, 3, 0};
        for (int full = 0; full < 2; full++) {
            fresh(2);
            sheet(0, 0, 0, 1, 1, 0);
            sheet(1, 1, 0, 1, 9, 9);
            sheet(2, 0, 9);
            sheet(3, 0, 0, 9, 0, 0);
            rowsBySheetFive(full == 0 ? 0 : 10);
            for (int i = 0; i < 5; i++) {
                for (int j = 0; j < 5; j++) {
                    int steps = i;
                    int letters = j;
                    String what = "machine of sheets " + i + ", " + j + (full > 0 ? ", no room" : "");
                    int why = full > 0 ? 2 : firstOf(whys[i], whys[j]);
                    refused(what + ", nine states", 1, e -> e.machine(steps, letters, 0, 9));
                    if (why > 0) {
                        refused(what, why, e -> e.machine(steps, letters, 0, 2));
                    } else {
                        does(what, 0, e -> e.machine(steps, letters, 0, 2));
                        does("drop", 0, e -> e.drop(0));
                    }
                }
            }
        }
    }

    private static int firstOf(int a, int b) {
        for (int why : new int[] {11, 12, 3}) {
            if (a == why || b == why) {
                return why;
            }
        }
        return 0;
    }

    private static void rowsBySheetFive(int many) {
        does("sheet", 1, e -> e.sheet(5, 0, 1));
        for (int i = 0; i < many; i++) {
            does("ring", i, e -> e.ring(5, 0, 0, 1));
        }
    }

    private static void noughtsAheadAreNotRead() {
        fresh(2);
        sheet(0, 0, 1, 1, 0, 1);
        sheet(1, 0, 4, 6);
        does("state 0 is left at once", 0, e -> e.machine(0, 1, 0, 2));
        is("0 has no digits", 4, e -> e.letter(0, 0));
        is("1", 6, e -> e.letter(0, 1));
        is("10", 4, e -> e.letter(0, 2));
        is("100", 6, e -> e.letter(0, 4));
        is("101", 6, e -> e.letter(0, 5));
        is("a state of its own for noughts ahead", 3, e -> e.width(0));
        fresh(3);
        sheet(0, 0, 0, 1, 2, 1, 1, 1, 2, 2, 2);
        sheet(1, 0, 3, 1, 2);
        does("the highest digit tells", 0, e -> e.machine(0, 1, 0, 3));
        is("0", 3, e -> e.letter(0, 0));
        is("1", 1, e -> e.letter(0, 1));
        is("2", 2, e -> e.letter(0, 2));
        is("12", 1, e -> e.letter(0, 5));
        is("20", 2, e -> e.letter(0, 6));
        is("222", 2, e -> e.letter(0, 26));
        is("1000", 1, e -> e.letter(0, 27));
    }

    // ---------------------------------------------------------------- grown rows

    private static void aGrownRowHasOneToEightLetters() {
        everything();
        for (int none : new int[] {LOWEST, -1, 0, 9, 10, HIGHEST}) {
            refused(none + " letters", 1, e -> e.grown(0, 0, none));
            refused(none + " letters, missing", 1, e -> e.grown(4, 0, none));
        }
        for (int none : new int[] {LOWEST, -2, -1, 3, 4, HIGHEST}) {
            refused("sort " + none, 1, e -> e.grown(0, none, 2));
        }
        for (int base = 2; base < 4; base++) {
            fresh(base);
            does("sheet", 1, e -> e.sheet(0, 2, 40));
            does("one letter", 0, e -> e.grown(0, 2, 1));
            does("eight letters", 1, e -> e.grown(0, 2, 8));
        }
    }

    private static void aGrownRowNeedsEnoughNumbers() {
        for (int base = 2; base < 4; base++) {
            for (int n = 1; n <= 8; n++) {
                int many = n;
                fresh(base);
                sheetOf(0, 1, n * base, n - 1);
                sheetOf(1, 1, n * base - 1, 0);
                sheetOf(2, 1, 0, 0);
                does(n + " letters", 0, e -> e.grown(0, 1, many));
                refused("one too few", 12, e -> e.grown(1, 1, many));
                refused("no number", 12, e -> e.grown(2, 1, many));
                refused("of another sort", 11, e -> e.grown(0, 2, many));
                refused("of another sort, one too few", 11, e -> e.grown(1, 0, many));
                refused("missing", 10, e -> e.grown(3, 1, many));
            }
        }
    }

    private static void aGrownRowsLettersAreSuch() {
        for (int n : new int[] {1, 2, 8}) {
            fresh(3);
            sheetOf(0, 0, n * 3, n - 1);
            does("the last letter", 0, e -> e.grown(0, 0, n));
            does("cell", 1, e -> e.cell(0, n * 3 - 1, n));
            refused("letter " + n, 3, e -> e.grown(0, 0, n));
            does("cell", 1, e -> e.cell(0, n * 3 - 1, 100));
            refused("letter 100", 3, e -> e.grown(0, 0, n));
            does("cell", 1, e -> e.cell(0, n * 3 - 1, 0));
            does("cell", 1, e -> e.cell(0, 0, 1));
            refused("0 does not begin with 0", 3, e -> e.grown(0, 0, n));
            does("cell", 1, e -> e.cell(0, 0, 0));
            does("it does again", 1, e -> e.grown(0, 0, n));
        }
        fresh(2);
        sheet(0, 0, 0, 7, 1, 1, 2, 2, 3, 3, 4, 4, 5, 5, 6, 6, 7, 6);
        does("eight letters", 0, e -> e.grown(0, 0, 8));
        int[] letters = {0, 7, 7, 6, 7, 6, 6, 6};
        for (int i = 0; i < letters.length; i++) {
            int number = i;
            is("letter of " + i, letters[i], e -> e.letter(0, number));
        }
        sheet(0, 0, 0, 1, 0, 1, 9, 9);
        does("what stands behind it does not matter", 1, e -> e.grown(0, 0, 2));
        refused("it does for three", 3, e -> e.grown(0, 0, 3));
        refused("letter 1 is none for one", 3, e -> e.grown(0, 0, 1));
    }

    private static void aGrownRowsStatusesGoInOrder() {
        // Good; of another sort; too few; with a letter that is none; missing.
        int[] whys = {0, 11, 12, 3, 10};
        for (int full = 0; full < 2; full++) {
            fresh(2);
            sheet(0, 0, 0, 1, 1, 0);
            sheet(1, 1, 9);
            sheet(2, 0, 9, 9, 9);
            sheet(3, 0, 0, 9, 0, 0);
            rowsBySheetFive(full == 0 ? 0 : 10);
            for (int i = 0; i < 5; i++) {
                int sheet = i;
                int why = full > 0 ? 2 : whys[i];
                refused("grown of sheet " + i + ", nine letters", 1, e -> e.grown(sheet, 0, 9));
                if (why > 0) {
                    refused("grown of sheet " + i, why, e -> e.grown(sheet, 0, 2));
                } else {
                    does("grown of sheet " + i, 0, e -> e.grown(sheet, 0, 2));
                    does("drop", 0, e -> e.drop(0));
                }
            }
        }
    }

    // ---------------------------------------------------------------- rings

    private static void aRingBeginsAndGoesAround() {
        everything();
        for (int none : new int[] {LOWEST, -2, -1, 7, 8, HIGHEST}) {
            refused("a beginning of " + none, 1, e -> e.ring(0, 0, none, 1));
        }
        for (int none : new int[] {LOWEST, -1, 0, 7, 8, HIGHEST}) {
            refused("a stretch of " + none, 1, e -> e.ring(0, 0, 1, none));
        }
        for (int none : new int[] {LOWEST, -2, -1, 3, 4, HIGHEST}) {
            refused("sort " + none, 1, e -> e.ring(0, none, 1, 1));
        }
        for (int begin = 0; begin <= 6; begin++) {
            for (int length = 1; length <= 6; length++) {
                ringOf(begin, length);
            }
        }
    }

    private static void ringOf(int begin, int length) {
        fresh(2 + (begin + length) % 2);
        int[] numbers = new int[begin + length];
        for (int i = 0; i < numbers.length; i++) {
            numbers[i] = (i * 3 + 1) % 8;
        }
        sheet(0, 2, numbers);
        does("ring", 0, e -> e.ring(0, 2, begin, length));
        for (int i = 0; i < begin + 2 * length + 1; i++) {
            int number = i;
            int place = i < begin ? i : begin + (i - begin) % length;
            is("letter of " + i, numbers[place], e -> e.letter(0, number));
        }
        int last = begin + (int) ((TOP - begin) % length);
        is("letter of the top", numbers[last], e -> e.letter(0, TOP));
        sheetOf(0, 2, begin + length - 1, 0);
        refused("a number too few", 12, e -> e.ring(0, 2, begin, length));
        refused("of another sort, too", 11, e -> e.ring(0, 1, begin, length));
        refused("missing", 10, e -> e.ring(1, 2, begin, length));
    }

    private static void aRingsLettersAreSuch() {
        fresh(2);
        sheet(0, 1, 7, 0, 0, 7, 8);
        does("letter 7", 0, e -> e.ring(0, 1, 1, 3));
        does("what stands behind it does not matter", 1, e -> e.ring(0, 1, 0, 4));
        refused("letter 8 in the stretch", 3, e -> e.ring(0, 1, 2, 3));
        refused("letter 8 in the beginning", 12, e -> e.ring(0, 1, 5, 1));
        sheet(0, 1, 8, 0, 0, 7, 7, 7);
        refused("letter 8 in the beginning", 3, e -> e.ring(0, 1, 5, 1));
        refused("letter 8 in the stretch", 3, e -> e.ring(0, 1, 0, 1));
        sheet(0, 1, 0, 0, 0, 0, 0, 100);
        refused("letter 100", 3, e -> e.ring(0, 1, 0, 6));
        does("no letter 100", 2, e -> e.ring(0, 1, 0, 5));
    }

    private static void aRingsStatusesGoInOrder() {
        int[] whys = {0, 11, 12, 3, 10};
        for (int full = 0; full < 2; full++) {
            fresh(2);
            sheet(0, 0, 0, 1, 1, 0);
            sheet(1, 1, 9);
            sheet(2, 0, 9, 9, 9);
            sheet(3, 0, 0, 9, 0, 0);
            rowsBySheetFive(full == 0 ? 0 : 10);
            for (int i = 0; i < 5; i++) {
                int sheet = i;
                int why = full > 0 ? 2 : whys[i];
                refused("ring of sheet " + i + ", begins too late", 1, e -> e.ring(sheet, 0, 7, 1));
                refused("ring of sheet " + i + ", no stretch", 1, e -> e.ring(sheet, 0, 1, 0));
                if (why > 0) {
                    refused("ring of sheet " + i, why, e -> e.ring(sheet, 0, 2, 2));
                } else {
                    does("ring of sheet " + i, 0, e -> e.ring(sheet, 0, 2, 2));
                    does("drop", 0, e -> e.drop(0));
                }
            }
        }
    }

    // ---------------------------------------------------------------- pairs and sought rows

    private static void aPairIsOfRowsThatAreThere() {
        fresh(2);
        refused("no rows", 1, e -> e.pair(0, 0, 0));
        everything();
        for (int none : new int[] {LOWEST, -2, -1, 5, 6, 9, 10, HIGHEST}) {
            refused("left row " + none, 1, e -> e.pair(none, 0, 0));
            refused("right row " + none, 1, e -> e.pair(0, none, 0));
            refused("both", 1, e -> e.pair(none, none, 0));
        }
        for (int none : new int[] {LOWEST, -2, -1, 3, 4, HIGHEST}) {
            refused("way " + none, 1, e -> e.pair(0, 1, none));
        }
        does("the first and the last row", 5, e -> e.pair(0, 4, 0));
        does("the last and the first row", 6, e -> e.pair(5, 0, 2));
        does("of one row twice", 7, e -> e.pair(6, 6, 1));
    }

    private static void eightLetters() {
        fresh(2);
        does("sheet", 1, e -> e.sheet(0, 0, 1));
        for (int i = 0; i < 8; i++) {
            int letter = i;
            does("cell", 1, e -> e.cell(0, 0, letter));
            does("always " + i, i, e -> e.ring(0, 0, 0, 1));
        }
    }

    private static void aPairsSumIsModuloEight() {
        eightLetters();
        for (int a = 0; a < 8; a++) {
            for (int b = 0; b < 8; b++) {
                int left = a;
                int right = b;
                does("pair", 8, e -> e.pair(left, right, 1));
                is(a + " + " + b, a + b > 7 ? a + b - 8 : a + b, e -> e.letter(8, 5));
                does("drop", 8, e -> e.drop(0));
            }
        }
    }

    private static void aPairTellsTheSameOrTheGreater() {
        for (int a = 0; a < 8; a++) {
            eightLetters();
            for (int b = 0; b < 8; b++) {
                int left = a;
                int right = b;
                does("pair", 8, e -> e.pair(left, right, 0));
                is(a + " same as " + b, a == b ? 1 : 0, e -> e.letter(8, 5));
                does("pair", 9, e -> e.pair(left, right, 2));
                is("greater of " + a + ", " + b, a > b ? a : b, e -> e.letter(9, 5));
                does("drop", 9, e -> e.drop(0));
                does("drop", 8, e -> e.drop(0));
            }
        }
    }

    private static void aPairIsSixtyWide() {
        for (int base = 2; base < 4; base++) {
            fresh(base);
            counting(3, false);
            counting(4, false);
            counting(5, false);
            does("twelve", 3, e -> e.pair(0, 1, 1));
            does("sixty", 4, e -> e.pair(3, 2, 1));
            is("sixty", 60, e -> e.width(4));
            does("sixty, turned around", 5, e -> e.pair(2, 3, 1));
            counting(1, false);
            does("sixty and one", 7, e -> e.pair(4, 6, 2));
            is("sixty", 60, e -> e.width(7));
            fresh(base);
            counting(3, true);
            counting(4, true);
            counting(5, true);
            does("twelve and a first state", 3, e -> e.pair(0, 1, 1));
            is("thirteen", 13, e -> e.width(3));
            refused("sixty-one", 3, e -> e.pair(3, 2, 1));
            refused("sixty-one, turned around", 3, e -> e.pair(2, 3, 1));
            refused("sixty-one, no such way", 1, e -> e.pair(2, 3, 3));
            rowsOfOneLetter(6);
            refused("sixty-one, no room", 2, e -> e.pair(3, 2, 1));
            refused("no such row, no room", 1, e -> e.pair(3, 10, 1));
            refused("no such way, no room", 1, e -> e.pair(3, 2, -1));
        }
    }

    /** The next row: 0 where the digits but noughts are nought modulo some, else 1. */
    private static void noughtOf(int round) {
        counting(round, false);
        int row = count(0) - 1;
        does("drop", row, e -> e.drop(0));
        int[] letters = new int[round];
        Arrays.fill(letters, 1, round, 1);
        sheet(5, 0, letters);
        does("nought of " + round, row, e -> e.machine(4, 5, 0, round));
    }

    // Each turn of what looks for unlike states finds but one more, so none is left out on the way past 60.
    private static void aPairThatTellsLittleIsSixtyWide() {
        for (int base = 2; base < 4; base++) {
            fresh(base);
            noughtOf(4);
            noughtOf(5);
            noughtOf(3);
            does("twenty", 3, e -> e.pair(0, 1, 2));
            does("sixty", 4, e -> e.pair(3, 2, 2));
            is("sixty", 60, e -> e.width(4));
            noughtOf(7);
            does("twenty-one", 6, e -> e.pair(2, 5, 2));
            refused("84", 3, e -> e.pair(6, 0, 2));
            refused("420", 3, e -> e.pair(4, 5, 2));
            does("28", 7, e -> e.pair(5, 0, 2));
            refused("84, turned around", 3, e -> e.pair(2, 7, 2));
        }
    }

    private static void aSoughtRowIsOfOneName() {
        thueMorse();
        refused("no questions", 1, e -> e.sought(0));
        ask("0=0");
        ask("r0[a]=1");
        ask("a<b");
        ask("a+b=c");
        ask("a=");
        ask(times(40));
        ask("is b a=b+b");
        for (int none : new int[] {LOWEST, -2, -1, 7, 8, 9, 10, HIGHEST}) {
            refused("question " + none, 1, e -> e.sought(none));
        }
        refused("no name", 3, e -> e.sought(0));
        does("one name", 1, e -> e.sought(1));
        refused("two names", 3, e -> e.sought(2));
        refused("three names", 3, e -> e.sought(3));
        refused("a fault", 3, e -> e.sought(4));
        refused("spent", 3, e -> e.sought(5));
        does("one name, and one that is bound", 2, e -> e.sought(6));
        for (int i = 0; i < 6; i++) {
            int number = i;
            is("odd ones", Integer.bitCount(i) % 2, e -> e.letter(1, number));
            is("even", i % 2 == 0 ? 1 : 0, e -> e.letter(2, number));
        }
        rowsOfOneLetter(7);
        refused("no room", 2, e -> e.sought(1));
        refused("no room, a fault", 2, e -> e.sought(4));
        refused("no room, spent", 2, e -> e.sought(5));
        refused("no room, two names", 2, e -> e.sought(2));
        refused("no room, no question", 1, e -> e.sought(7));
    }

    private static void thereAreTenRows() {
        thueMorse();
        ask("a=1");
        rowsOfOneLetter(8);
        does("row 9 by a machine", 9, e -> e.machine(4, 5, 0, 1));
        refused("row 10 by a machine", 2, e -> e.machine(4, 5, 0, 1));
        does("drop", 9, e -> e.drop(0));
        does("row 9 by what grows", 9, e -> e.grown(0, 0, 2));
        refused("row 10 by what grows", 2, e -> e.grown(0, 0, 2));
        does("drop", 9, e -> e.drop(0));
        does("row 9 by a ring", 9, e -> e.ring(0, 0, 0, 1));
        refused("row 10 by a ring", 2, e -> e.ring(0, 0, 0, 1));
        does("drop", 9, e -> e.drop(0));
        does("row 9 by a pair", 9, e -> e.pair(0, 1, 0));
        refused("row 10 by a pair", 2, e -> e.pair(0, 1, 0));
        does("drop", 9, e -> e.drop(0));
        does("row 9 by a question", 9, e -> e.sought(0));
        refused("row 10 by a question", 2, e -> e.sought(0));
        is("row 9 is there", 4, e -> e.kind(9));
        is("row 10 is not", -1, e -> e.kind(10));
        is("ten", 10, e -> e.count(0));
        does("begin", 1, e -> e.begin(2));
        does("there is room again", 0, e -> e.ring(0, 0, 0, 1));
    }

    // ---------------------------------------------------------------- drop, count, kind

    private static void theLatestRowIsDropped() {
        thueMorse();
        for (int none : new int[] {LOWEST, -2, -1, 2, 3, HIGHEST}) {
            refused("drop " + none, 1, e -> e.drop(none));
        }
        does("row 1", 1, e -> e.ring(0, 0, 0, 2));
        does("row 1 is no more", 1, e -> e.drop(0));
        is("no row 1", -1, e -> e.kind(1));
        does("row 0 is no more", 0, e -> e.drop(0));
        refused("there is none", 3, e -> e.drop(0));
        does("row 0 again", 0, e -> e.grown(0, 0, 2));
        ask("r0[a]=8");
        ask("r0[a]=1)");
        ask("r0[a]=r1[b]");
        does("questions with a fault do not name it", 0, e -> e.drop(0));
        does("row 0 again", 0, e -> e.grown(0, 0, 2));
        ask("is b(a=b and r0[b]=1)");
        refused("a question names it", 3, e -> e.drop(0));
        does("row 1", 1, e -> e.ring(0, 0, 0, 2));
        does("row 1 is not named", 1, e -> e.drop(0));
        refused("row 0 still is", 3, e -> e.drop(0));
        does("question 3 is no more", 3, e -> e.drop(1));
        does("nothing names it any more", 0, e -> e.drop(0));
        fresh(2);
        rowsOfOneLetter(9);
        counting(2, false);
        ask("0=0 or r0[a]=r9[b]");
        refused("row 9 is named to the right", 3, e -> e.drop(0));
        does("question 0 is no more", 0, e -> e.drop(1));
        ask(times(40) + " or r9[a+b]=0");
        is("spent", 79, e -> e.told(0, 2));
        refused("row 9 is named by one that is spent", 3, e -> e.drop(0));
        does("begin", 1, e -> e.begin(3));
        refused("there is none", 3, e -> e.drop(0));
    }

    private static void theLatestQuestionIsDropped() {
        fresh(2);
        refused("there is none", 3, e -> e.drop(1));
        ask("a=1");
        ask("a=");
        does("with a fault", 1, e -> e.drop(1));
        ask(times(40));
        does("spent", 1, e -> e.drop(1));
        does("sought", 0, e -> e.sought(0));
        refused("a row is sought of it", 3, e -> e.drop(1));
        ask("a=2");
        does("sought", 1, e -> e.sought(1));
        does("sought", 2, e -> e.sought(0));
        refused("a row is sought of it", 3, e -> e.drop(1));
        does("row 2", 2, e -> e.drop(0));
        refused("a row is sought of it", 3, e -> e.drop(1));
        does("row 1", 1, e -> e.drop(0));
        does("none is any more", 1, e -> e.drop(1));
        refused("of the first one still", 3, e -> e.drop(1));
        does("row 0", 0, e -> e.drop(0));
        does("none is any more", 0, e -> e.drop(1));
        refused("there is none", 3, e -> e.drop(1));
        ask("a=3");
        does("a question of the same number", 0, e -> e.sought(0));
        is("letter of 3", 1, e -> e.letter(0, 3));
        is("letter of 1", 0, e -> e.letter(0, 1));
    }

    private static void fiveCountsAreKept() {
        everything();
        int[] counts = {5, 2, 3, 2, 8};
        for (int i = 0; i < 5; i++) {
            int what = i;
            is("count(" + i + ")", counts[i], e -> e.count(what));
        }
        for (int none : new int[] {LOWEST, -2, -1, 5, 6, HIGHEST}) {
            is("count(" + none + ")", -1, e -> e.count(none));
        }
    }

    private static void aKindIsOfARow() {
        everything();
        for (int i = 0; i < 5; i++) {
            int row = i;
            is("kind(" + i + ")", i, e -> e.kind(row));
        }
        for (int none : new int[] {LOWEST, -2, -1, 5, 6, 9, 10, HIGHEST}) {
            is("kind(" + none + ")", -1, e -> e.kind(none));
            is("width(" + none + ")", -1, e -> e.width(none));
            is("letter(" + none + ")", -1, e -> e.letter(none, 0));
            is("differ(" + none + ")", -2, e -> e.differ(none, 0));
            is("differ(" + none + ")", -2, e -> e.differ(0, none));
        }
    }

    // ---------------------------------------------------------------- letter, width, differ

    private static void aLetterIsOfNumbersUpToTheTop() {
        for (int base = 2; base < 4; base++) {
            fresh(base);
            counting(7, false);
            counting(8, true);
            for (long number : new long[] {0, 1, 2, 3, 4, TOP / 3 * 2, TOP - 2, TOP - 1, TOP}) {
                String digits = number == 0 ? "" : Long.toString(number, base);
                int others = digits.replace("0", "").length();
                is("digits of " + number + " but noughts", others % 7, e -> e.letter(0, number));
                is("digits of " + number, digits.length() % 8, e -> e.letter(1, number));
            }
            for (long none : new long[] {Long.MIN_VALUE, -TOP, -2, -1, TOP + 1, TOP + 2, Long.MAX_VALUE}) {
                is("letter of " + none, -1, e -> e.letter(0, none));
            }
            is("no row 2", -1, e -> e.letter(2, 0));
        }
    }

    private static void aWidthIsOfARow() {
        fresh(2);
        counting(8, false);
        is("eight states", 8, e -> e.width(0));
        counting(8, true);
        is("eight states, and one for noughts ahead", 9, e -> e.width(1));
        does("one state", 2, e -> e.machine(2, 3, 0, 8));
        is("one state", 1, e -> e.width(2));
        sheet(0, 0, 1, 2, 3, 0, 5, 6, 7, 6, 5, 4, 3, 2);
        does("ring", 3, e -> e.ring(0, 0, 6, 6));
        is("a state for each place", 12, e -> e.width(3));
        is("no row", -1, e -> e.width(4));
    }

    /** The next row: 0 for as many digits (some at least) as leave this rest by n, when the first one is told; else 1. */
    private static void lengths(int n, int rest, int firstDigit) {
        int base = count(3);
        int[] steps = new int[(n + 2) * base];
        int[] letters = new int[n + 2];
        for (int i = 0; i < n + 2; i++) {
            letters[i] = i > 0 && i <= n && i % n == rest ? 0 : 1;
            for (int digit = 0; digit < base; digit++) {
                int on = i == n + 1 ? n + 1 : i == n ? 1 : i + 1;
                boolean dead = i == 0 && firstDigit > 0 && digit != firstDigit;
                steps[i * base + digit] = dead ? n + 1 : on;
            }
        }
        int states = firstDigit > 0 ? n + 2 : n + 1;
        sheet(4, 0, Arrays.copyOf(steps, states * base));
        sheet(5, 0, Arrays.copyOf(letters, states));
        int row = count(0);
        does("lengths", row, e -> e.machine(4, 5, 0, states));
    }

    /** Rows 6 and 7: 28 digits and 35 or 42 more; the numbers that are not in both have 63 digits at least. */
    private static void rowsOfSixtyThreeDigits(int lastDigit) {
        fresh(2);
        lengths(5, 3, 0);
        lengths(7, 0, 0);
        lengths(6, 4, 0);
        sheet(0, 0, lastDigit, 1 - lastDigit);
        does("0 for numbers of this last digit", 3, e -> e.ring(0, 0, 0, 2));
        does("28 and 35 more", 4, e -> e.pair(0, 1, 2));
        does("28 and 42 more", 5, e -> e.pair(2, 1, 2));
        does("of this last digit", 6, e -> e.pair(4, 3, 2));
        does("of this last digit", 7, e -> e.pair(5, 3, 2));
    }

    private static void rowsDifferAtTheTop() {
        rowsOfSixtyThreeDigits(0);
        is("the least one is the top", TOP, e -> e.differ(6, 7));
        is("the least one is the top", TOP, e -> e.differ(7, 6));
        is("the letter there", 0, e -> e.letter(6, TOP));
        is("the letter there", 1, e -> e.letter(7, TOP));
        rowsOfSixtyThreeDigits(1);
        is("the least one is one above the top", -3, e -> e.differ(6, 7));
        is("the least one is one above the top", -3, e -> e.differ(7, 6));
    }

    /** Rows of 5 digits, and 35 or 42 more, all with this first digit: one alone has numbers of 40 digits. */
    private static void rowsDifferAtTheTopInBaseThree() {
        for (int first = 1; first < 3; first++) {
            fresh(3);
            lengths(5, 0, first);
            lengths(7, 5, 0);
            lengths(6, 5, first);
            does("5, and 35 more", 3, e -> e.pair(0, 1, 2));
            does("5, and 42 more", 4, e -> e.pair(2, 1, 2));
            long least = 81L * first;
            is("the least of 5 digits is in both", 0, e -> e.letter(3, least));
            is("the least of 5 digits is in both", 0, e -> e.letter(4, least));
            // 3 to the 39 is below 2 to the 62, twice as much above.
            long power = 4052555153018976267L;
            is("40 digits that begin with " + first, first == 1 ? power : -3, e -> e.differ(3, 4));
            is("the highest power of 3", first == 1 ? 0 : 1, e -> e.letter(3, power));
            is("the highest power of 3", 1, e -> e.letter(4, power));
        }
    }

    private static void rowsDifferAtNoughtOrNowhere() {
        fresh(2);
        sheet(0, 0, 1, 2);
        sheet(1, 0, 2, 1);
        sheet(2, 0, 1, 1, 2);
        does("1 2 1 2", 0, e -> e.ring(0, 0, 0, 2));
        does("2 1 2 1", 1, e -> e.ring(1, 0, 0, 2));
        does("1 2 1 2 again, told otherwise", 2, e -> e.ring(0, 0, 0, 2));
        does("1 1 2 1", 3, e -> e.ring(2, 0, 0, 3));
        does("1 2 2 2", 4, e -> e.ring(0, 0, 1, 1));
        is("at 0", 0, e -> e.differ(0, 1));
        is("at 1", 1, e -> e.differ(0, 3));
        is("at 2", 2, e -> e.differ(0, 4));
        is("at 2", 2, e -> e.differ(4, 2));
        is("nowhere", -1, e -> e.differ(0, 2));
        is("nowhere", -1, e -> e.differ(1, 1));
        is("no row 5", -2, e -> e.differ(0, 5));
        is("no row 5", -2, e -> e.differ(5, 0));
        is("no row -1", -2, e -> e.differ(-1, -1));
    }
}
