/**
 * Each sentence of the document on what is spent and on what a question can be asked that names a bound: just inside it,
 * at it, and just outside. The name of a test tells the sentence.
 */
public final class AskEdgesTest extends Court {
    private static final long[] BELOW = {Long.MIN_VALUE, -TOP, -2, -1};
    private static final long[] ABOVE = {TOP + 1, TOP + 2, Long.MAX_VALUE};

    private static Runnable scene = () -> fresh(2);

    public static void main(String[] args) {
        anAtomHasUpToFortyStates();
        anAtomOfRowsHasUpToFortyStates();
        theLettersHaveUpToFortyStates();
        theLettersOfSumsHaveUpToFortyStates();
        andOrSoHaveUpToFortyStates();
        aBoundPartHasUpToFortyStates();
        upToThreeHundredSetsAreMet();
        aNameThatIsNotFreeMeetsNoSets();
        theFirstPartThatEndsIsSpent();
        nothingCanBeAskedOfWhatIsSpent();
        noughtsAheadLeadNowhere();
        statesAndRowsOfDigitsThatAreThere();
        holdsForNumbersUpToTheTop();
        holdsWhateverNamesItHasNot();
        nextIsAboveATold();
        nextIsUpToTheTop();
        nextIsOfOneName();
        manyAreNoneSomeOrEndless();
        manyAndNextAreOfUpTo35Digits();
        manyIsOfOneName();
        valuesAreOfSecondsUpToTwoToTheThirty();
        valuesAreUpToTheTop();
        valuesAreUpToTheTopInBaseThree();
        valuesIsOfTwoNames();
        alikeAreOfAsManyNames();
        end("edges of what is asked");
    }

    private static void spent(String text, int place) {
        scene.run();
        int q = ask(text);
        String what = "'" + text + "' ";
        is(what + "fault", 0, e -> e.told(q, 0));
        is(what + "spent", place, e -> e.told(q, 2));
        is(what + "takes", -1, e -> e.takes(q, 0));
        is(what + "states", -2, e -> e.told(q, 8));
    }

    private static void stands(String text, int states) {
        scene.run();
        int q = ask(text);
        String what = "'" + text + "' ";
        is(what + "fault", 0, e -> e.told(q, 0));
        is(what + "spent", -1, e -> e.told(q, 2));
        is(what + "states", states, e -> e.told(q, 8));
        is(what + "the last state", 0, e -> e.takes(q, states - 1) == -1 ? 1 : 0);
        is(what + "no more states", -1, e -> e.takes(q, states));
    }

    // ---------------------------------------------------------------- spent

    private static void anAtomHasUpToFortyStates() {
        for (int base = 2; base < 4; base++) {
            int now = base;
            scene = () -> fresh(now);
            stands(times(38), 39);
            stands(times(39), 40);
            spent(times(40), 79);
            spent(times(41), 81);
            spent(times(59), 117);
            stands("b" + "+b".repeat(38) + "=a", 40);
            spent("b" + "+b".repeat(39) + "=a", 79);
        }
        // What makes no difference does not count.
        stands(times(40).replace("b", "40"), 3);
        stands("a" + "+a".repeat(28) + "=a" + "+a".repeat(28), 1);
    }

    /** Rows 0 and 1: digits but noughts, by 8 and by 5. Row 2: all digits by 5, with a first state for noughts ahead. */
    private static void eightAndFive(int base) {
        fresh(base);
        counting(8, false);
        counting(5, false);
        counting(5, true);
    }

    private static void anAtomOfRowsHasUpToFortyStates() {
        for (int base = 2; base < 4; base++) {
            int now = base;
            scene = () -> eightAndFive(now);
            stands("r0[a]=r1[a]", 40);
            stands("r1[a]=r0[a]", 40);
            stands("r0[a]=r1[b]", 40);
            spent("r0[a]=r2[a]", 5);
            spent("r2[a]=r0[a]", 5);
            spent("0=0 and r2[a]  =r0[a]", 15);
        }
    }

    /** Row 3 is 40 wide, row 5 is 41 wide; neither ever tells 6 or 7. */
    private static void fortyAndOneMore() {
        eightAndFive(2);
        does("40 wide", 3, e -> e.pair(0, 1, 0));
        counting(6, false);
        does("41 wide", 5, e -> e.pair(0, 2, 0));
    }

    private static void theLettersHaveUpToFortyStates() {
        scene = AskEdgesTest::fortyAndOneMore;
        scene.run();
        is("40 wide", 40, e -> e.width(3));
        is("41 wide", 41, e -> e.width(5));
        stands("r3[a]=7", 1);
        spent("r5[a]=7", 5);
        stands("r3[a]=r3[a]", 1);
        spent("r5[a]=r5[a]", 5);
        stands("r3[b]=2", 1);
        spent("r5[h]  =2", 7);
        stands("is a r3[a]=1 and 0=0", 1);
        spent("0=1 and is a r5[a]=7", 18);
        // The one to the left is small, the one to the right is not; and the other way around.
        spent("r1[a]=r5[a]", 5);
        spent("r5[a]=r1[a]", 5);
        fresh(2);
        counting(6, false);
        counting(7, false);
        does("42 wide", 2, e -> e.pair(0, 1, 0));
        int q = ask("r2[a]=7");
        is("42 wide", 5, e -> e.told(q, 2));
    }

    /** Rows 0 and 1 are 5 and 6 wide; the letters of a number and 3 need 40 states of the one, 41 of the other. */
    private static void lettersOfSums() {
        fresh(2);
        sheet(0, 0, 0, 3, 2, 0, 4, 4, 1, 1, 1, 3);
        sheet(1, 0, 0, 1, 3, 1, 0);
        does("machine", 0, e -> e.machine(0, 1, 0, 5));
        sheet(0, 0, 0, 2, 4, 5, 5, 3, 1, 1, 4, 0, 1, 3);
        sheet(1, 0, 0, 1, 0, 1, 1, 0);
        does("machine", 1, e -> e.machine(0, 1, 0, 6));
    }

    private static void theLettersOfSumsHaveUpToFortyStates() {
        scene = AskEdgesTest::lettersOfSums;
        stands("r0[a+3]=7", 1);
        spent("r1[a+3]=7", 7);
        spent("r1[h + 3] = r0[a]", 10);
        spent("r0[a+3]=r1[a+3]", 7);
        spent("r0[b]=r1[a+3]", 5);
        for (int base = 2; base < 4; base++) {
            int now = base;
            scene = () -> {
                fresh(now);
                counting(6, false);
            };
            stands("r0[a+b]=0", 36);
            stands("r0[a+b]=r0[c]", 36);
            stands("r0[a+1]=r0[b]", 36);
            for (int a = 0; a < 9; a++) {
                scene.run();
                int q = ask("r0[a+b]=2");
                for (int b = 0; b < 200; b++) {
                    int first = a * 37;
                    int second = b;
                    long others = Long.toString(first + second, base).chars().filter(c -> c != '0').count();
                    is("digits but noughts of " + first + " + " + b, others % 6 == 2 ? 1 : 0,
                        e -> e.holds(q, first, second, 0));
                }
            }
        }
    }

    private static void andOrSoHaveUpToFortyStates() {
        for (int base = 2; base < 4; base++) {
            int now = base;
            scene = () -> eightAndFive(now);
            stands("r0[a]=0 and r1[a]=0", 40);
            spent("r0[a]=0 and r2[a]=0", 8);
            stands("not r0[a]=0 or not r1[a]=0", 40);
            spent("not r0[a]=0 or not r2[a]=0", 12);
            stands("r0[a]=0 so not r1[a]=0", 40);
            spent("r0[a]=0 so not r2[a]=0", 8);
            stands("not (r0[a]=0 and r1[a]=0)", 40);
            spent("not (r0[a]=0 and r2[a]=0)", 13);
            // It does not matter that less would be left.
            spent("(r0[a]=0 and r2[a]=0) and 0=1", 9);
            stands("(r0[a]=0 and r1[a]=0) and 0=1", 1);
        }
    }

    /** Row 0 of base 3: the sum of the digits modulo 3. */
    private static void sumOfDigits() {
        fresh(3);
        sheet(0, 0, 0, 1, 2, 1, 2, 0, 2, 0, 1);
        does("grown", 0, e -> e.grown(0, 0, 3));
    }

    private static void aBoundPartHasUpToFortyStates() {
        scene = AskEdgesTest::sumOfDigits;
        stands("is b (a=b+b+b+26 and r0[b]=1)", 40);
        spent("is b (a=b+b+b+25 and r0[b]=1)", 0);
        stands("all b not (a=b+b+b+26 and r0[b]=1)", 40);
        spent("all b not (a=b+b+b+25 and r0[b]=1)", 0);
        stands("all b (a=b+b+b+26 so not r0[b]=1)", 40);
        spent("all b (a=b+b+b+25 so not r0[b]=1)", 0);
        stands("not is b (a=b+b+b+26 and r0[b]=1)", 40);
        spent("not is b (a=b+b+b+25 and r0[b]=1)", 4);
        spent("is a is b (a=b+b+b+25 and r0[b]=1)", 5);
        stands("is a is b (a=b+b+b+26 and r0[b]=1)", 1);
    }

    /** These all hold always or never, so that it is the sets alone that are too many. */
    private static void upToThreeHundredSetsAreMet() {
        scene = () -> {
            fresh(2);
            sheet(0, 0, 0, 1, 0, 0);
            does("grown", 0, e -> e.grown(0, 0, 2));
        };
        String just = "(a+a<c+b+53 or r0[a+b]=0)";
        String above = "(a<c+b+76 or r0[a+b]=0)";
        stands("is b " + just, 1);
        spent("is b " + above, 0);
        stands("all b not " + just, 1);
        spent("all b not " + above, 0);
        stands("not is b " + just, 1);
        spent("not is b " + above, 4);
        spent("0=0 or is b " + above, 7);
        stands("0=0 or is b " + just, 1);
    }

    private static void aNameThatIsNotFreeMeetsNoSets() {
        scene = () -> fresh(2);
        stands("is c " + times(39), 40);
        stands("all c " + times(39), 40);
        stands("is c all d is e " + times(39), 40);
        spent("is c " + times(40), 84);
        stands("is a 0=0", 1);
        stands("all a 0=1", 1);
    }

    private static void theFirstPartThatEndsIsSpent() {
        scene = () -> eightAndFive(2);
        spent("r0[a]=r2[a] and r2[a]=r0[a]", 5);
        spent("0=0 and r2[a]=r0[a]", 13);
        spent("(r0[a]=0 and r2[a]=0) or r0[a]=r2[a]", 9);
        spent("r0[a]=0 and r2[a]=0 and r0[a]=r2[a]", 8);
        spent("r0[a]=0 or r2[a]=0 and r0[a]=r2[a]", 28);
        spent("r0[a]=0 so (r2[a]=0 so r0[a]=r2[b])", 28);
        stands("r1[a]=0 so (0=0 so r1[a]=r2[b] or 0=0)", 1);
        spent("is b r0[a]=r2[a]", 10);
    }

    private static void nothingCanBeAskedOfWhatIsSpent() {
        fresh(2);
        ask(times(40));
        ask("a+b<c+d");
        ask("a=99+1");
        ask("");
        ask(times(40) + " or 0=0");
        for (int i = -1; i <= 5; i++) {
            int q = i;
            String what = "question " + i + " ";
            is(what + "step", -1, e -> e.step(q, 0, 0));
            is(what + "takes", -1, e -> e.takes(q, 0));
            is(what + "holds", -1, e -> e.holds(q, 0, 0, 0));
            is(what + "next", -2, e -> e.next(q, -1));
            is(what + "many", -2, e -> e.many(q));
            is(what + "values", -2, e -> e.values(q, 0));
            is(what + "alike", -1, e -> e.alike(q, q));
            is(what + "can be told of", q < 0 || q > 4 ? -1 : 0, e -> Math.min(e.told(q, 0), 0));
            if (q >= 0 && q <= 4) {
                refused(what + "no row is sought of it", 3, e -> e.sought(q));
            }
        }
        is("two names, though spent", 2, e -> e.told(0, 3));
        is("two names, though spent", 2, e -> e.told(4, 3));
    }

    // ---------------------------------------------------------------- step, takes

    private static void noughtsAheadLeadNowhere() {
        String[] texts = {"0=0", "0=1", "a=0", "a=1", "a=99", "a<b", "a+b=c", "r0[a]=1", "r0[a+3]=r0[b]", "not a=0",
            "is b a=b+b+1", "all c (c<a so c<b)", times(39)};
        for (String text : texts) {
            thueMorse();
            int q = ask(text);
            is("'" + text + "'", 0, e -> e.step(q, 0, 0));
        }
        scene = () -> eightAndFive(3);
        scene.run();
        int q = ask("r2[a]=r2[b+0]");
        is("a row with a first state", 0, e -> e.step(q, 0, 0));
        is("but for a digit it goes on", 1, e -> e.step(q, 0, 1));
    }

    private static void statesAndRowsOfDigitsThatAreThere() {
        String[] texts = {"0=0", "a=0", "a<b", "a+b=c"};
        int[] states = {1, 2, 3, 3};
        for (int base = 2; base < 4; base++) {
            int fan = 1;
            for (int names = 0; names < 4; names++) {
                int last = states[names] - 1;
                int highest = fan - 1;
                fresh(base);
                int q = ask(texts[names]);
                is(texts[names], last + 1, e -> e.told(q, 8));
                for (int i = 0; i <= last; i++) {
                    int state = i;
                    is("the first row of digits", 1, e -> e.step(q, state, 0) <= last && e.step(q, state, 0) >= 0 ? 1 : 0);
                    is("the last row of digits", 1,
                        e -> e.step(q, state, highest) <= last && e.step(q, state, highest) >= 0 ? 1 : 0);
                    is("one row more", -1, e -> e.step(q, state, highest + 1));
                    is("one row less", -1, e -> e.step(q, state, -1));
                    is("takes", 1, e -> e.takes(q, state) >= 0 ? 1 : 0);
                }
                for (int none : new int[] {LOWEST, -2, -1, last + 1, last + 2, 40, 41, HIGHEST}) {
                    is("step of state " + none, -1, e -> e.step(q, none, 0));
                    is("takes of state " + none, -1, e -> e.takes(q, none));
                }
                for (int none : new int[] {LOWEST, -2, -1, 1, 2, 9, 10, HIGHEST}) {
                    is("step of question " + none, -1, e -> e.step(none, 0, 0));
                    is("takes of question " + none, -1, e -> e.takes(none, 0));
                }
                is("rows far off", -1, e -> e.step(q, 0, HIGHEST));
                is("rows far off", -1, e -> e.step(q, 0, LOWEST));
                fan *= base;
            }
        }
    }

    // ---------------------------------------------------------------- holds

    private static void holdsForNumbersUpToTheTop() {
        for (int base = 2; base < 4; base++) {
            fresh(base);
            int q = ask("a+b=c");
            is("of 0", 1, e -> e.holds(q, 0, 0, 0));
            is("of the top", 1, e -> e.holds(q, 0, TOP, TOP));
            is("of the top", 1, e -> e.holds(q, TOP, 0, TOP));
            is("of the top", 1, e -> e.holds(q, TOP - 1, 1, TOP));
            is("of the top, not so", 0, e -> e.holds(q, TOP - 1, 2, TOP));
            is("of the top, not so", 0, e -> e.holds(q, TOP, TOP, TOP));
            is("of half the top", 1, e -> e.holds(q, TOP / 2, TOP / 2, TOP));
            for (long none : BELOW) {
                is("first " + none, -1, e -> e.holds(q, none, 0, 0));
                is("second " + none, -1, e -> e.holds(q, 0, none, 0));
                is("third " + none, -1, e -> e.holds(q, 0, 0, none));
            }
            for (long none : ABOVE) {
                is("first " + none, -1, e -> e.holds(q, none, 0, 0));
                is("second " + none, -1, e -> e.holds(q, 0, none, 0));
                is("third " + none, -1, e -> e.holds(q, 0, 0, none));
            }
            for (int none : new int[] {LOWEST, -2, -1, 1, 2, 9, 10, HIGHEST}) {
                is("question " + none, -1, e -> e.holds(none, 0, 0, 0));
            }
        }
    }

    private static void holdsWhateverNamesItHasNot() {
        fresh(2);
        int none = ask("0=0");
        int one = ask("h=5");
        int two = ask("c<e");
        for (long any : new long[] {Long.MIN_VALUE, -1, 0, TOP, TOP + 1, Long.MAX_VALUE}) {
            is("no names", 1, e -> e.holds(none, any, any, any));
            is("one name", 1, e -> e.holds(one, 5, any, any));
            is("one name, not so", 0, e -> e.holds(one, 4, any, any));
            is("two names", 1, e -> e.holds(two, 4, 5, any));
            is("two names, not so", 0, e -> e.holds(two, 5, 4, any));
            boolean outside = any < 0 || any > TOP;
            is("the first name", outside ? -1 : 0, e -> e.holds(one, any, 0, 0));
            is("the second name", outside ? -1 : any > 5 ? 1 : 0, e -> e.holds(two, 5, any, 0));
        }
    }

    // ---------------------------------------------------------------- next

    private static void nextIsAboveATold() {
        long[] above = {-1, 0, 1, 4, 5, 6, 7, 26, 30, 53, 79, 80, 81, TOP - 1, TOP};
        long[] next = {0, 5, 5, 5, 6, 80, 80, 80, 80, 80, 80, -1, -1, -1, -1};
        for (int base = 3; base > 1; base--) {
            fresh(base);
            int q = ask("a=0 or a=5 or a=6 or a=80");
            for (int i = 0; i < above.length; i++) {
                long told = above[i];
                is("next above " + told, next[i], e -> e.next(q, told));
            }
        }
        int q = 0;
        for (long none : new long[] {Long.MIN_VALUE, -TOP, -3, -2, TOP + 1, TOP + 2, Long.MAX_VALUE}) {
            is("next above " + none, -2, e -> e.next(q, none));
        }
        for (int none : new int[] {LOWEST, -2, -1, 1, 2, 9, 10, HIGHEST}) {
            is("question " + none, -2, e -> e.next(none, 0));
        }
        int never = ask("0=1 and a=a");
        is("none from 0 on", -1, e -> e.next(never, -1));
        is("none above the top", -1, e -> e.next(never, TOP));
        int nought = ask("a=0");
        is("0 is above -1", 0, e -> e.next(nought, -1));
        is("0 is not above 0", -1, e -> e.next(nought, 0));
    }

    private static void nextIsUpToTheTop() {
        for (int base = 2; base < 4; base++) {
            fresh(base);
            int all = ask("a=a");
            int even = ask("is b a=b+b");
            int odd = ask("is b a=b+b+1");
            is("all", TOP - 1, e -> e.next(all, TOP - 2));
            is("all", TOP, e -> e.next(all, TOP - 1));
            is("all", -3, e -> e.next(all, TOP));
            is("even", TOP, e -> e.next(even, TOP - 2));
            is("even", TOP, e -> e.next(even, TOP - 1));
            is("even", -3, e -> e.next(even, TOP));
            is("odd", TOP - 1, e -> e.next(odd, TOP - 3));
            is("odd", TOP - 1, e -> e.next(odd, TOP - 2));
            is("odd", -3, e -> e.next(odd, TOP - 1));
            is("odd", -3, e -> e.next(odd, TOP));
            int third = ask("is b a=b+b+b+1");
            is("the top is one more than three times a number", TOP, e -> e.next(third, TOP - 1));
            is("the top is one more than three times a number", TOP, e -> e.next(third, TOP - 3));
            is("three more", -3, e -> e.next(third, TOP));
        }
    }

    private static void nextIsOfOneName() {
        fresh(2);
        int none = ask("0=0");
        int two = ask("a<b");
        int three = ask("a+b=c");
        int bound = ask("is a a=b");
        for (long above : new long[] {-1, 0, TOP}) {
            is("no name", -2, e -> e.next(none, above));
            is("two names", -2, e -> e.next(two, above));
            is("three names", -2, e -> e.next(three, above));
            is("one name, and one that is bound", above < TOP ? above + 1 : -3, e -> e.next(bound, above));
        }
    }

    // ---------------------------------------------------------------- many

    private static void manyAreNoneSomeOrEndless() {
        for (int base = 2; base < 4; base++) {
            fresh(base);
            String[] texts = {"0=1 and a=a", "a=0", "a=99", "a<=99", "a=5 or a=7", "a=a", "99<a", "not a=5"};
            long[] many = {0, 1, 1, 100, 2, -1, -1, -1};
            for (int i = 0; i < texts.length; i++) {
                int q = ask(texts[i]);
                is("'" + texts[i] + "'", many[i], e -> e.many(q));
            }
        }
    }

    /** The least number of 35 digits, and those below it: as many as its own number. */
    private static void manyAndNextAreOfUpTo35Digits() {
        for (int base = 2; base < 4; base++) {
            long least = base == 2 ? 1L << 34 : 16677181699666569L;
            lengthsAndPowers(base);
            int below = ask("not is b(r2[b]=1 and b<=a and r0[b]=0 and r1[b]=0)");
            is("not spent", -1, e -> e.told(below, 2));
            is("below 35 digits", least, e -> e.many(below));
            is("the last one", least - 1, e -> e.next(below, least - 2));
            is("none behind it", -1, e -> e.next(below, least - 1));
            int above = ask("is b(r2[b]=1 and b<=a and r0[b]=0 and r1[b]=0)");
            is("endlessly many", -1, e -> e.many(above));
            is("the first one", least, e -> e.next(above, -1));
            is("the first one", least, e -> e.next(above, least - 1));
            is("the second one", least + 1, e -> e.next(above, least));
            int apart = ask("r0[a]=0 and r1[a]=0");
            is("endlessly many, though the first two are far apart", -1, e -> e.many(apart));
            is("0 has no digits", 0, e -> e.next(apart, -1));
            is("35 digits", least, e -> e.next(apart, 0));
            is("70 digits", -3, e -> e.next(apart, TOP));
            int powers = ask("r2[a]=1");
            is("endlessly many, though but one of each length", -1, e -> e.many(powers));
            int beside = ask("r2[a]=1 and b<5");
            is("endlessly many, though but one of each length", -1, e -> e.values(beside, 4));
            is("none", 0, e -> e.values(beside, 5));
        }
    }

    private static void manyIsOfOneName() {
        fresh(2);
        int none = ask("0=0");
        int two = ask("a<b");
        int three = ask("a+b=c");
        int bound = ask("is a a=b");
        is("no name", -2, e -> e.many(none));
        is("two names", -2, e -> e.many(two));
        is("three names", -2, e -> e.many(three));
        is("one name, and one that is bound", -1, e -> e.many(bound));
        for (int other : new int[] {LOWEST, -2, -1, 4, 5, 9, 10, HIGHEST}) {
            is("question " + other, -2, e -> e.many(other));
        }
    }

    // ---------------------------------------------------------------- values

    private static void valuesAreOfSecondsUpToTwoToTheThirty() {
        long highest = 1L << 30;
        for (int base = 2; base < 4; base++) {
            fresh(base);
            int less = ask("a<b");
            int half = ask("a+a<=b");
            int more = ask("b<a");
            int sum = ask("a+b=99");
            for (long second : new long[] {0, 1, 2, 98, 99, 100, highest - 1, highest}) {
                is("a < " + second, second, e -> e.values(less, second));
                is("a + a <= " + second, second / 2 + 1, e -> e.values(half, second));
                is(second + " < a", -1, e -> e.values(more, second));
                is("a + " + second + " = 99", second < 100 ? 1 : 0, e -> e.values(sum, second));
            }
            for (long none : new long[] {Long.MIN_VALUE, -2, -1, highest + 1, highest + 2, TOP, Long.MAX_VALUE}) {
                is("a < " + none, -2, e -> e.values(less, none));
                is(none + " < a", -2, e -> e.values(more, none));
            }
            for (int none : new int[] {LOWEST, -2, -1, 4, 5, 9, 10, HIGHEST}) {
                is("question " + none, -2, e -> e.values(none, 0));
            }
        }
    }

    /** Rows 0, 1: digits by 7 and by 5. Row 2: whether a number is a power of the base. */
    private static void lengthsAndPowers(int base) {
        fresh(base);
        counting(7, true);
        counting(5, true);
        if (base == 2) {
            sheet(0, 0, 0, 1, 1, 2, 2, 2);
        } else {
            sheet(0, 0, 0, 1, 2, 1, 2, 2, 2, 2, 2);
        }
        sheet(1, 0, 0, 1, 0);
        does("powers", 2, e -> e.machine(0, 1, 0, 3));
    }

    /** Of a and b: a is below each power of the base that has 35 digits more than b (or 70, ..). */
    private static int below(int base) {
        lengthsAndPowers(base);
        String longer = base == 2 ? "b+b+1<c" : "b+b+b+2<c";
        return ask("not is c(r2[c]=1 and c<=a and " + longer + " and r0[c]=r0[b] and r1[c]=r1[b])");
    }

    private static void valuesAreUpToTheTop() {
        int q = below(2);
        is("spent", -1, e -> e.told(q, 2));
        is("for 0: less than 35 digits", 1L << 34, e -> e.values(q, 0));
        is("for 1: less than 36 digits", 1L << 35, e -> e.values(q, 1));
        is("27 digits, 62 less one", 1L << 61, e -> e.values(q, (1L << 27) - 1));
        is("28 digits, just the top", TOP, e -> e.values(q, 1L << 27));
        is("28 digits, just the top", TOP, e -> e.values(q, (1L << 28) - 1));
        is("29 digits, more", -3, e -> e.values(q, 1L << 28));
        is("31 digits, more", -3, e -> e.values(q, 1L << 30));
        is("outside", -2, e -> e.values(q, (1L << 30) + 1));
    }

    private static void valuesAreUpToTheTopInBaseThree() {
        int q = below(3);
        is("spent", -1, e -> e.told(q, 2));
        is("for 0: less than 35 digits", 16677181699666569L, e -> e.values(q, 0));
        is("for 242: 5 digits, less than 40", 4052555153018976267L, e -> e.values(q, 242));
        is("for 81", 4052555153018976267L, e -> e.values(q, 81));
        is("for 243: 6 digits, more than the top", -3, e -> e.values(q, 243));
        is("for the highest second", -3, e -> e.values(q, 1L << 30));
    }

    private static void valuesIsOfTwoNames() {
        fresh(2);
        int none = ask("0=0");
        int one = ask("a=5");
        int three = ask("a+b=c");
        int bound = ask("is c a+c=b");
        is("no name", -2, e -> e.values(none, 0));
        is("one name", -2, e -> e.values(one, 0));
        is("three names", -2, e -> e.values(three, 0));
        is("two names, and one that is bound", 8, e -> e.values(bound, 7));
    }

    // ---------------------------------------------------------------- alike

    private static void alikeAreOfAsManyNames() {
        fresh(2);
        ask("0=0");
        ask("a=a");
        ask("a+b=b+a");
        ask("g+f+h=h+g+f");
        ask("0=1");
        ask("h<a+1+a and 0=0");
        ask("b<c+c+1");
        ask("a<b+b+1");
        for (int i = 0; i < 8; i++) {
            for (int j = 0; j < 8; j++) {
                int a = i;
                int b = j;
                is("alike " + a + ", " + b, a == b || a > 5 && b > 5 ? 1 : 0, e -> e.alike(a, b));
            }
        }
        for (int none : new int[] {LOWEST, -2, -1, 8, 9, 10, HIGHEST}) {
            is("alike of " + none, -1, e -> e.alike(none, 0));
            is("alike of " + none, -1, e -> e.alike(0, none));
            is("alike of " + none, -1, e -> e.alike(none, none));
        }
        ask("a=");
        ask(times(40));
        is("a fault", -1, e -> e.alike(0, 8));
        is("a fault", -1, e -> e.alike(8, 0));
        is("spent", -1, e -> e.alike(9, 0));
        is("spent", -1, e -> e.alike(0, 9));
        is("both", -1, e -> e.alike(8, 9));
    }
}
