/**
 * Each sentence of the document on the tape, on texts, and on faults that names a bound: just inside it, at it, and just
 * outside; what is refused changes nothing. The name of a test tells the sentence. Each text has an object of its own.
 */
public final class TextEdgesTest extends Court {
    /** All tokens of a text that is whole only with the last one, each as it can be cut from those beside it. */
    private static final String[] TOKENS = {"(", "all", "a", "(", "is", "b", "(", "r0", "[", "a", "+", "b", "]", "=", "r0",
        "[", "b", "+", "3", "]", "or", "not", "a", "+", "1", "<=", "b", "+", "b", ")", "and", "0", "=", "0", "so", "a", "<",
        "12", ")", ")"};

    /** Every token there is, each with the sign that tells it below. */
    private static final String[] ALL = {"(", ")", "[", "]", "+", "=", "<", "<=", "all", "is", "not", "and", "or", "so", "c",
        "7", "r0"};
    private static final String SIGNS = "()[]+=<LAINDOSn0r";
    private static final String BEGINS = "(AINn0r";
    private static final String ENDS = ")DOS";
    private static final String LEFT = "+=<L";

    /** What can stand where each of TOKENS stands. */
    private static final String[] CAN_STAND = {BEGINS, BEGINS, "n", BEGINS, BEGINS, "n", BEGINS, BEGINS, "[", "n", "+]", "n0",
        "]", "=", "0r", "[", "n", "+]", "n0", "]", ENDS, BEGINS, BEGINS, LEFT, "n0", LEFT, "n0", "+" + ENDS, "n0",
        "+" + ENDS, ENDS, BEGINS, LEFT, "n0", "+" + ENDS, BEGINS, LEFT, "n0", "+" + ENDS, ENDS, "DOS"};

    // What is made ahead of each text.
    private static Runnable scene = Court::thueMorse;

    public static void main(String[] args) {
        oneToEightBytesAreFed();
        theLowestBytesComeFirst();
        theTapeHasUpTo120Bytes();
        aTextMayBeOf120Bytes();
        nothingIsAText();
        thereAreTenQuestions();
        scene = () -> fresh(2);
        aByteThatBeginsNone();
        aByteBehindAText();
        aByteBehindAName();
        onlyByte32IsBlank();
        numbersHaveUpToTwoDigits();
        namesAreEightLetters();
        keysAreWholeRowsOfLetters();
        signsAreAsLongAsCanBe();
        scene = Court::tenRows;
        rowsAreALetterAndADigit();
        scene = Court::thueMorse;
        textsThatEndTooEarly();
        theFirstTokenThatCannotStand();
        whatCanStandWhere();
        tokensOfAtoms();
        scene = () -> fresh(2);
        tenOthersAreTooMany();
        kindsOfNotsInTen();
        sumsMakeUpTo99();
        namesAreBoundOnce();
        upToThreeNamesAreFree();
        threeNamesInTheOrderOfParts();
        scene = Court::thueMorse;
        numbersBehindRowsAreUpToSeven();
        numbersInAnIndexAreUpToThree();
        scene = TextEdgesTest::sixAndSeven;
        rowsInSumsAreUpToSixWide();
        rowsThatAreNotThere();
        theFirstFaultInTheOrderOfTokens();
        kindsOfFaultsGoInOrder();
        keysBindFromTheLeftOrTheRight();
        whatIsToldOfAQuestion();
        placesOfParts();
        end("edges of texts");
    }

    private static void fault(String text, int kind, int place) {
        scene.run();
        int q = ask(text);
        String what = "'" + text + "' ";
        is(what + "fault", kind, e -> e.told(q, 0));
        is(what + "place", place, e -> e.told(q, 1));
        is(what + "spent", -1, e -> e.told(q, 2));
        for (int i = 3; i < 9; i++) {
            int told = i;
            is(what + "told " + i, -2, e -> e.told(q, told));
        }
        is(what + "can't be asked", -1, e -> e.holds(q, 0, 0, 0));
    }

    private static void sound(String text, int names, int parts) {
        scene.run();
        int q = ask(text);
        String what = "'" + text + "' ";
        is(what + "fault", 0, e -> e.told(q, 0));
        is(what + "place", -1, e -> e.told(q, 1));
        is(what + "names", names, e -> e.told(q, 3));
        is(what + "parts", parts, e -> e.told(q, 7));
    }

    // ---------------------------------------------------------------- the tape, questions

    private static void oneToEightBytesAreFed() {
        everything();
        for (int none : new int[] {LOWEST, -2, -1, 0, 9, 10, HIGHEST}) {
            refused(none + " bytes", 1, e -> e.feed(none, 0x2020202020202020L));
        }
        for (int n = 1; n <= 8; n++) {
            int many = n;
            fresh(2);
            does(n + " bytes", n, e -> e.feed(many, 0x2020202020202020L));
            is(n + " bytes", n, e -> e.count(2));
            does(n + " more", 2 * n, e -> e.feed(many, 0x2020202020202020L));
        }
    }

    private static void theLowestBytesComeFirst() {
        String text = "a = 1234";
        long bytes = 0;
        for (int i = 7; i >= 0; i--) {
            bytes = bytes << 8 | text.charAt(i);
        }
        long all = bytes;
        for (int n = 1; n <= 8; n++) {
            int many = n;
            fresh(2);
            does(n + " lowest bytes", n, e -> e.feed(many, all));
            does("question", 0, EndlessRows::question);
            is("fault", n == 5 || n == 6 ? 0 : 1, e -> e.told(0, 0));
            is("place", n < 5 ? n : n < 7 ? -1 : 4, e -> e.told(0, 1));
            is("holds for", n == 5 ? 1 : n == 6 ? 12 : -2, e -> e.next(0, -1));
        }
        fresh(2);
        does("the other bytes do not matter", 5, e -> e.feed(5, all | -1L << 40));
        does("question", 0, EndlessRows::question);
        is("holds for", 1, e -> e.next(0, -1));
        fresh(2);
        does("bytes of 255", 8, e -> e.feed(8, -1));
        does("bytes of 128", 16, e -> e.feed(8, 0x8080808080808080L));
        does("question", 0, EndlessRows::question);
        is("they begin none", 0, e -> e.told(0, 1));
        fresh(2);
        does("what comes behind", 2, e -> e.feed(2, 'a' | '=' << 8));
        does("what comes behind", 4, e -> e.feed(2, '7' | '5' << 8));
        does("question", 0, EndlessRows::question);
        is("holds for", 75, e -> e.next(0, -1));
    }

    private static void theTapeHasUpTo120Bytes() {
        for (int already = 112; already <= 120; already++) {
            everything();
            does("question", 2, EndlessRows::question);
            feed(" ".repeat(already));
            for (int n = 1; n <= 8; n++) {
                int many = n;
                if (already + n > 120) {
                    refused(n + " bytes behind " + already, 2, e -> e.feed(many, 0));
                }
            }
            refused("no bytes behind " + already, 1, e -> e.feed(0, 0));
            refused("nine bytes behind " + already, 1, e -> e.feed(9, 0));
            int rest = 120 - already;
            if (rest > 0) {
                does(rest + " bytes behind " + already, 120, e -> e.feed(rest, 0x2020202020202020L));
            }
            refused("the tape is full", 2, e -> e.feed(1, 32));
            does("question", 3, EndlessRows::question);
            is("a text of 120 blanks ends too early", 120, e -> e.told(3, 1));
            does("the tape is empty", 8, e -> e.feed(8, 0));
        }
    }

    private static void aTextMayBeOf120Bytes() {
        sound("a=b" + " ".repeat(117), 2, 1);
        sound(" ".repeat(117) + "a=b", 2, 1);
        fault(" ".repeat(118) + "a=", 1, 120);
        fault(" ".repeat(119) + "a", 1, 120);
        fault(" ".repeat(119) + "x", 1, 119);
        fault(" ".repeat(117) + "123", 1, 117);
        sound("0=0" + "or0=0".repeat(23), 0, 47);
        sound("0=0" + "and0=0".repeat(19), 0, 39);
        sound("0=0" + "so0=0".repeat(23), 0, 47);
        fault("a+".repeat(60), 1, 120);
        fault("a".repeat(120), 1, 0);
        fault("0".repeat(120), 1, 0);
        fault("(".repeat(120), 1, 10);
        scene.run();
        int q = ask("a" + "+a".repeat(57) + "=" + "b ");
        is("58 a are more than 40 states", 115, e -> e.told(q, 2));
    }

    private static void nothingIsAText() {
        scene.run();
        does("an empty tape", 0, EndlessRows::question);
        is("its fault", 1, e -> e.told(0, 0));
        is("its place", 0, e -> e.told(0, 1));
        does("once more", 1, EndlessRows::question);
        is("its place", 0, e -> e.told(1, 1));
        fault("", 1, 0);
        fault(" ", 1, 1);
        fault("  ", 1, 2);
    }

    private static void thereAreTenQuestions() {
        fresh(2);
        for (int i = 0; i < 9; i++) {
            ask("a=" + i);
        }
        does("an empty tape is the tenth", 9, EndlessRows::question);
        refused("there are ten", 2, EndlessRows::question);
        feed("a=1");
        refusedYetDone("there are ten", 2, EndlessRows::question);
        is("the tape is empty then, too", 0, e -> e.count(2));
        is("ten", 10, e -> e.count(1));
        for (int i = 0; i < 9; i++) {
            int q = i;
            is("question " + i + " is what it was", i, e -> e.next(q, -1));
        }
        is("question 9 is what it was", 1, e -> e.told(9, 0));
        is("no question 10", -1, e -> e.told(10, 0));
        refused("there are ten, an empty tape", 2, EndlessRows::question);
        does("drop", 9, e -> e.drop(1));
        ask("a=99");
        is("question 9 is another", 99, e -> e.next(9, -1));
        does("begin", 1, e -> e.begin(2));
        ask("a=5");
        is("question 0 is another", 5, e -> e.next(0, -1));
    }

    // ---------------------------------------------------------------- tokens

    /** A byte alone: those that can begin a text end too early behind it. */
    private static void aByteThatBeginsNone() {
        for (char c = 0; c < 256; c++) {
            boolean stands = c == ' ' || c == '(' || c >= '0' && c <= '9' || c >= 'a' && c <= 'h';
            fault("" + c, 1, stands ? 1 : 0);
        }
    }

    private static void aByteBehindAText() {
        for (char c = 0; c < 256; c++) {
            String text = "a = 1" + c;
            if (c == ' ' || c >= '0' && c <= '9') {
                sound(text, 1, 1);
            } else {
                fault(text, 1, c == '+' ? 6 : 5);
            }
        }
    }

    private static void aByteBehindAName() {
        for (char c = 0; c < 256; c++) {
            String text = "a" + c + "= 1";
            if (c == ' ' || c == '<') {
                sound(text, 1, 1);
            } else if (c >= 'a' && c <= 'z') {
                fault(text, 1, 0);
            } else {
                fault(text, 1, c == '+' || c == '=' ? 2 : 1);
            }
        }
    }

    private static void onlyByte32IsBlank() {
        sound("  (  a  <=  1  )  ", 1, 1);
        for (char c : new char[] {0, 9, 10, 11, 12, 13, 28, 31, 33, 127, 128, 160, 255}) {
            fault("a <= 1 " + c, 1, 7);
            fault(c + "a <= 1", 1, 0);
        }
        fault("a < = 1", 1, 4);
        fault("a = 1 2", 1, 6);
        fault("n ot a = 1", 1, 0);
        fault("r 0[a] = 1", 1, 0);
        sound("not a=1and all b b=b", 1, 5);
    }

    private static void numbersHaveUpToTwoDigits() {
        for (String number : new String[] {"0", "9", "00", "09", "10", "99"}) {
            sound(number + " = a", 1, 1);
            sound("a<=" + number, 1, 1);
            scene.run();
            int q = ask("a=" + number);
            is("what number " + number + " is", Integer.parseInt(number), e -> e.next(q, -1));
        }
        for (String number : new String[] {"000", "001", "100", "999", "0000", "1234567890"}) {
            fault(number + " = a", 1, 0);
            fault("a <= " + number, 1, 5);
            fault("a <= 1 + " + number + " )", 1, 9);
            fault("a <= ) " + number, 1, 5);
        }
        fault("a = 1 1", 1, 6);
        sound("a=1or 2=a", 1, 3);
    }

    private static void namesAreEightLetters() {
        for (char c = 'a'; c <= 'z'; c++) {
            if (c <= 'h') {
                sound(c + "=1", 1, 1);
                sound("is " + c + " " + c + "=1", 0, 2);
            } else {
                fault(c + "=1", 1, 0);
                fault("is " + c + " " + c + "=1", 1, 3);
            }
        }
        fault("aa=1", 1, 0);
        fault("a1=1", 1, 1);
        fault("1a=1", 1, 1);
        fault("A=1", 1, 0);
    }

    private static void keysAreWholeRowsOfLetters() {
        for (String key : new String[] {"all", "is", "not", "and", "or", "so"}) {
            boolean begins = key.equals("all") || key.equals("is") || key.equals("not");
            fault(key, 1, begins ? key.length() : 0);
            fault(key + key, 1, 0);
            fault(key + "x", 1, 0);
            fault("x" + key, 1, 0);
            fault(key.substring(1), 1, 0);
            fault(key.substring(0, key.length() - 1), 1, 0);
            fault("a=1 " + key, 1, begins ? 4 : 4 + key.length());
            fault("a=1 " + key + key + " a=1", 1, 4);
            fault("a=1 " + key.toUpperCase() + " a=1", 1, 4);
        }
        sound("a=1and a=1", 1, 3);
        sound("a=1or(a=1)", 1, 3);
        sound("a=1so not(a=1)", 1, 4);
        fault("a=1 anda=1", 1, 4);
        fault("nota=1", 1, 0);
        fault("alla a=1", 1, 0);
        fault("isa a=1", 1, 0);
        fault("a=b and", 1, 7);
        fault("a=band b=1", 1, 2);
        sound("a=0or0=0", 1, 3);
    }

    private static void signsAreAsLongAsCanBe() {
        sound("a<=1", 1, 1);
        sound("a<1", 1, 1);
        fault("a<<=1", 1, 2);
        fault("a<==1", 1, 3);
        fault("a=<1", 1, 2);
        fault("a= =1", 1, 3);
        fault("a++1=b", 1, 2);
        fault("(a=1))", 1, 5);
        fault("[a=1]", 1, 0);
        fault("a>1", 1, 1);
        fault("a=-1", 1, 2);
        fault("a=1,b=1", 1, 3);
        fault("{a=1}", 1, 0);
        fault("a:=1", 1, 1);
        fault("a/1=1", 1, 1);
    }

    private static void rowsAreALetterAndADigit() {
        for (char c = '0'; c <= '9'; c++) {
            sound("r" + c + "[a]=r" + c + "[b]", 2, 1);
        }
        fault("r[a]=1", 1, 0);
        fault("r:[a]=1", 1, 0);
        fault("r/[a]=1", 1, 0);
        fault("r10[a]=1", 1, 2);
        fault("r00[a]=1", 1, 2);
        fault("r-1[a]=1", 1, 0);
        fault("R0[a]=1", 1, 0);
        fault("s0[a]=1", 1, 0);
        fault("rr0[a]=1", 1, 0);
        fault("ar0[a]=1", 1, 0);
        fault("q0[a]=1", 1, 0);
        fault("a=r0", 1, 2);
        sound("not r9[a]=1", 1, 2);
    }

    // ---------------------------------------------------------------- kind 1

    private static String joined(int many, String between) {
        StringBuilder text = new StringBuilder();
        for (int i = 0; i < many; i++) {
            text.append(TOKENS[i]).append(between);
        }
        return text.toString();
    }

    private static void textsThatEndTooEarly() {
        for (int many = 0; many < TOKENS.length; many++) {
            String text = joined(many, " ");
            fault(text, 1, text.length());
            fault(text + "  ", 1, text.length() + 2);
        }
        sound(joined(TOKENS.length, " "), 0, 10);
    }

    private static void theFirstTokenThatCannotStand() {
        for (int many = 0; many <= TOKENS.length; many++) {
            String text = joined(many, " ");
            for (String none : new String[] {"i", "123", "$", "ands", "r"}) {
                fault(text + none + " ) 456", 1, text.length());
            }
        }
    }

    /** Each token in the place of each one of the text (and behind the last one). */
    private static void whatCanStandWhere() {
        for (int i = 0; i <= TOKENS.length; i++) {
            String ahead = joined(i, " ");
            String behind = i < TOKENS.length ? joined(TOKENS.length, " ").substring(joined(i + 1, " ").length()) : "";
            for (int j = 0; j < ALL.length; j++) {
                String text = ahead + ALL[j] + " " + behind;
                if (CAN_STAND[i].indexOf(SIGNS.charAt(j)) < 0) {
                    fault(text, 1, ahead.length());
                } else {
                    scene.run();
                    int q = ask(text);
                    is("'" + text + "' the token stands", 1,
                        e -> e.told(q, 0) != 1 || e.told(q, 1) > ahead.length() ? 1 : 0);
                }
            }
        }
    }

    private static void tokensOfAtoms() {
        fault("r0", 1, 2);
        fault("r0 a", 1, 3);
        fault("r0[", 1, 3);
        fault("r0[1]=1", 1, 3);
        fault("r0[r0]=1", 1, 3);
        fault("r0[]=1", 1, 3);
        fault("r0[a+]=1", 1, 5);
        fault("r0[a+b+c]=1", 1, 6);
        fault("r0[a+1+1]=1", 1, 6);
        fault("r0[a b]=1", 1, 5);
        fault("r0[a)=1", 1, 4);
        fault("r0[a]", 1, 5);
        fault("r0[a]<1", 1, 5);
        fault("r0[a]<=1", 1, 5);
        fault("r0[a]+1=1", 1, 5);
        fault("r0[a]=", 1, 6);
        fault("r0[a]=b", 1, 6);
        fault("r0[a]=(1)", 1, 6);
        fault("r0[a]=1+1", 1, 7);
        fault("r0[a]=1=1", 1, 7);
        fault("r0[a]=r0", 1, 8);
        fault("r0[a]=r0[1]", 1, 9);
        fault("1=r0[a]", 1, 2);
        fault("a+r0[a]=1", 1, 2);
        fault("(a)=1", 1, 2);
        fault("a=(1)", 1, 2);
        fault("a<b<c", 1, 3);
        fault("a<b=c", 1, 3);
        fault("all a", 1, 5);
        fault("all a b", 1, 7);
        fault("all a b a=1", 1, 8);
        fault("all (a) a=1", 1, 4);
        fault("is 1 a=1", 1, 3);
        fault("is not a=1", 1, 3);
        fault("not", 1, 3);
        fault("not so a=1", 1, 4);
        fault("a=1 not a=1", 1, 4);
        fault("a=1 all b b=1", 1, 4);
        fault("a=1 (a=1)", 1, 4);
        fault("a=1 and and a=1", 1, 8);
        fault("a=1 or so a=1", 1, 7);
        fault("so a=1", 1, 0);
        fault("a=1 so", 1, 6);
        fault("()", 1, 1);
        fault(")", 1, 0);
    }

    private static void keysBindFromTheLeftOrTheRight() {
        scene = () -> fresh(2);
        // If the first, then the second; of three the right two belong together; and binds more than or, or than so.
        String[] texts = {"a=1 so a=2 so a=3", "(a=1 so a=2) so a=3", "a=1 or a=2 and a=3", "a=1 and a=2 or a=3",
            "a=1 or a=2 so a=2", "a=1 so a=2 or a=3", "not a=1 and a=2", "not a=1 so a=2", "is b b=1 and a=2"};
        String[] hold = {"1111", "0101", "0100", "0001", "1011", "1011", "0010", "0110", "0010"};
        for (int i = 0; i < texts.length; i++) {
            scene.run();
            int q = ask(texts[i]);
            for (int number = 0; number < 4; number++) {
                int a = number;
                is(texts[i] + " for " + a, hold[i].charAt(a) - '0', e -> e.holds(q, a, 0, 0));
            }
        }
    }

    // ---------------------------------------------------------------- a not in ten others

    private static void tenOthersAreTooMany() {
        sound("(".repeat(8) + "a=1" + ")".repeat(8), 1, 1);
        sound("(".repeat(9) + "a=1" + ")".repeat(9), 1, 1);
        fault("(".repeat(10) + "a=1" + ")".repeat(10), 1, 10);
        fault("(".repeat(11) + "a=1" + ")".repeat(11), 1, 10);
        fault("(".repeat(9), 1, 9);
        fault("(".repeat(10), 1, 10);
        fault("(".repeat(9) + ")", 1, 9);
        fault("(".repeat(10) + ")", 1, 10);
        fault("(".repeat(8) + "i", 1, 8);
        sound("not ".repeat(9) + "a=1", 1, 10);
        fault("not ".repeat(10) + "a=1", 1, 40);
        fault("not ".repeat(11) + "a=1", 1, 40);
        sound("(".repeat(8) + "not a=1" + ")".repeat(8), 1, 2);
        fault("(".repeat(9) + "not a=1" + ")".repeat(9), 1, 13);
        fault("(".repeat(9) + "not i", 1, 13);
        fault("(".repeat(9) + "not )", 1, 13);
        sound("(".repeat(8) + "all a a=1" + ")".repeat(8), 0, 2);
        fault("(".repeat(9) + "all a a=1" + ")".repeat(9), 1, 15);
        fault("(".repeat(9) + "is a (a=1)" + ")".repeat(9), 1, 14);
        sound("all a is b all c is d all e is f all g is h (a=1)", 0, 9);
        fault("all a is b all c is d all e is f all g is h ((a=1))", 1, 46);
        fault("all a is b all c is d all e is f all g is h not (a=1)", 1, 49);
    }

    /** It is only what a NOT lies in that counts, not what stands ahead of it. */
    private static void kindsOfNotsInTen() {
        String nine = "(".repeat(9) + "a=1" + ")".repeat(9);
        sound(nine + "or" + nine + "and" + nine, 1, 5);
        sound("(".repeat(9) + "a=1 and a=1 or a=1 so a=1 so a=1" + ")".repeat(9), 1, 9);
        fault("(".repeat(9) + "a=1 and (a=1)" + ")".repeat(9), 1, 18);
        fault("(".repeat(9) + "a=1 so not a=1" + ")".repeat(9), 1, 20);
        fault(nine + "and (" + nine + ")", 1, 35);
        sound("0=0" + "so(0=0)".repeat(15), 0, 31);
    }

    // ---------------------------------------------------------------- kind 2

    private static void sumsMakeUpTo99() {
        sound("a=99", 1, 1);
        sound("a=98+1", 1, 1);
        sound("a=99+0+0", 1, 1);
        fault("a=99+1", 2, 5);
        fault("a=1+99", 2, 4);
        fault("99+99=a", 2, 3);
        sound("33+a+33+b+33<c", 3, 1);
        fault("33+a+33+b+34<c", 2, 10);
        fault("33+a+33+b+34+9+99<c", 2, 10);
        fault("33+a+33+b+33+1<c", 2, 13);
        sound("99+a=b+99", 2, 1);
        fault("99+a=b+99+1", 2, 10);
        fault("1+99=b+99+1", 2, 2);
        fault("0=0 and a<50+50", 2, 13);
        scene.run();
        int q = ask("a=33+33+33");
        is("99", 99, e -> e.next(q, -1));
        int r = ask("a+99=99");
        is("0", 0, e -> e.next(r, -1));
        is("0 alone", 1, e -> e.many(r));
    }

    private static void namesAreBoundOnce() {
        sound("all a a=a", 0, 2);
        fault("all a all a a=a", 2, 10);
        fault("is a is a a=a", 2, 8);
        fault("all h is h h=h", 2, 9);
        fault("all a not (b=b or is a a=a)", 2, 21);
        sound("(all a a=a) and all a a=a", 0, 5);
        sound("all a a=a or is a a=a", 0, 5);
        sound("a=1 and is a a=2", 1, 4);
        sound("is a a=2 and a=1", 1, 4);
        fault("is a (a=1 and is b (b=a and all a a=b))", 2, 32);
        sound("is a (a=1 and is b b=a) and is b b=1", 0, 8);
        fault("is b (is a a=b and is a b=a and is b b=b)", 2, 35);
    }

    private static void numbersBehindRowsAreUpToSeven() {
        for (int number = 0; number <= 9; number++) {
            if (number < 8) {
                sound("r0[a]=" + number, 1, 1);
                sound("r0[a]=0" + number, 1, 1);
            } else {
                fault("r0[a]=" + number, 2, 6);
                fault("r0[a]=0" + number, 2, 6);
            }
        }
        fault("r0[a]=10", 2, 6);
        fault("r0[a]=99", 2, 6);
        fault("r0[a]=100", 1, 6);
        scene.run();
        int q = ask("r0[a]=7");
        is("never", -1, e -> e.next(q, -1));
    }

    private static void numbersInAnIndexAreUpToThree() {
        for (int number = 0; number <= 9; number++) {
            if (number < 4) {
                sound("r0[a+" + number + "]=1", 1, 1);
                sound("r0[b]=r0[a+0" + number + "]", 2, 1);
            } else {
                fault("r0[a+" + number + "]=1", 2, 5);
                fault("r0[b]=r0[a+0" + number + "]", 2, 11);
            }
        }
        fault("r0[a+99]=1", 2, 5);
        fault("r0[a+100]=1", 1, 5);
        scene.run();
        int q = ask("r0[a+3]=1");
        for (int i = 0; i < 20; i++) {
            int number = i;
            is("of " + i + " + 3", Integer.bitCount(i + 3) % 2, e -> e.holds(q, number, 0, 0));
        }
    }

    /** Row 0 is 6 wide, row 1 is 7 wide. */
    private static void sixAndSeven() {
        fresh(2);
        counting(6, false);
        counting(7, false);
    }

    private static void rowsInSumsAreUpToSixWide() {
        scene.run();
        is("row 0", 6, e -> e.width(0));
        is("row 1", 7, e -> e.width(1));
        for (String more : new String[] {"+0", "+3", "+a", "+b", " + 00"}) {
            int names = more.equals("+b") ? 2 : 1;
            sound("r0[a" + more + "]=0", names, 1);
            fault("r1[a" + more + "]=0", 2, 0);
            fault("r0[a]=r1[a" + more + "]", 2, 6);
            fault("r1[a]=r1[a" + more + "]", 2, 6);
        }
        sound("r1[a]=0", 1, 1);
        sound("r1[a]=r0[a]", 1, 1);
        fault("r1[a+4]=8", 2, 0);
        fault("r0[a+4]=8", 2, 5);
        fault("r0[a+3]=8", 2, 8);
    }

    private static void rowsThatAreNotThere() {
        sound("r1[a]=0", 1, 1);
        fault("r2[a]=0", 2, 0);
        fault("r9[a]=0", 2, 0);
        fault("r1[a]=r2[a]", 2, 6);
        fault("r3[a]=r2[a]", 2, 0);
        fault("r2[a+9]=9", 2, 0);
        scene.run();
        int q = ask("r2[a]=0");
        does("row 2 comes too late", 2, e -> e.pair(0, 1, 0));
        is("the fault stays", 2, e -> e.told(q, 0));
        int r = ask("r2[a]=0");
        is("row 2 is there", 0, e -> e.told(r, 0));
        does("begin", 1, e -> e.begin(2));
        int s = ask("r0[a]=0");
        is("no rows", 2, e -> e.told(s, 0));
    }

    private static void theFirstFaultInTheOrderOfTokens() {
        fault("r0[a]=8 and r2[a]=0", 2, 6);
        fault("r2[a]=0 and r0[a]=8", 2, 0);
        fault("a<99+1 or r0[a]=8", 2, 5);
        fault("is a is a r0[a]=8", 2, 8);
        fault("is a r0[a]=8 or is b is b b=100+1", 1, 28);
        fault("is a r0[a]=8 or is b is b b=10+1", 2, 11);
        fault("r0[a+4]=r2[b]", 2, 5);
    }

    // ---------------------------------------------------------------- kind 3

    private static void upToThreeNamesAreFree() {
        sound("a+b=c", 3, 1);
        fault("a+b=c+d", 3, 3);
        fault("a+b<c+d", 3, 3);
        fault("a+b<=c+d", 3, 3);
        fault("e+f+g+h+a=0", 3, 9);
        sound("not a+b=c", 3, 2);
        fault("not a+b=c+d", 3, 7);
        sound("a+b=c and c=b", 3, 3);
        fault("a+b=c and c=d", 3, 6);
        fault("a+b=c or c=d", 3, 6);
        fault("a+b=c so c=d", 3, 6);
        fault("is d a+b=c+d", 3, 8);
        fault("all d(a=b and c=d)", 3, 10);
        sound("is d a+b=d and c=a", 3, 4);
        fault("is d a+b=d and c+h=a", 3, 11);
        sound("a=b and (is a a=b or is b b=a or is c is d c=d)", 2, 11);
        sound("is a a=1 and is b b=1 and is c c=1 and is d d=1", 0, 11);
    }

    private static void threeNamesInTheOrderOfParts() {
        fault("a=b and c=d or e=f", 3, 4);
        fault("a=b or c=d and e=f", 3, 11);
        fault("a=b so c=d so e=f", 3, 11);
        fault("(a=b so c=d) so e=f", 3, 5);
        fault("a=b and c=d and e=f", 3, 4);
        fault("a=b or c=d or e=f", 3, 4);
        fault("a=b and (c=d and e=f)", 3, 13);
        fault("a+b+c=d and e+f+g=h", 3, 5);
        fault("is a (a=b and c=d) or e+f+g=h", 3, 10);
        fault("not (a=b and c=d)", 3, 9);
        fault("a+b=c and is d d+e+f=c+d", 3, 20);
    }

    private static void kindsOfFaultsGoInOrder() {
        fault("a+b=c+d and r9[a]=0 and", 1, 23);
        fault("a+b=c+d and r9[a]=0", 2, 12);
        fault("r9[a]=0 and a+b=c+d", 2, 0);
        fault("a+b=c+d and a=100", 1, 14);
        fault("a=99+1 or", 1, 9);
        fault("a=99+1 or a+b=c+d", 2, 5);
        fault("is a is a b+c=d+e", 2, 8);
        fault("r9[a]=9)", 1, 7);
        fault("r0[a]=8 and " + "(".repeat(10) + "a=1", 1, 22);
    }

    // ---------------------------------------------------------------- what is told

    private static void told(String text, int... due) {
        scene.run();
        int q = ask(text);
        for (int i = 0; i < due.length; i++) {
            int what = i;
            is("'" + text + "' told " + i, due[i], e -> e.told(q, what));
        }
    }

    private static void whatIsToldOfAQuestion() {
        scene = () -> fresh(2);
        told("0=0", 0, -1, -1, 0, -1, -1, -1, 1, 1);
        told("0=1", 0, -1, -1, 0, -1, -1, -1, 1, 1);
        told("h=0", 0, -1, -1, 1, 7, -1, -1, 1, 2);
        told("h<=a", 0, -1, -1, 2, 0, 7, -1, 1, 3);
        told("c=a+b", 0, -1, -1, 3, 0, 1, 2, 1, 3);
        told("h=f+g", 0, -1, -1, 3, 5, 6, 7, 1, 3);
        told("is a a=b", 0, -1, -1, 1, 1, -1, -1, 2, 1);
        told("a<", 1, 2, -1, -2, -2, -2, -2, -2, -2);
        told("a<99+1", 2, 5, -1, -2, -2, -2, -2, -2, -2);
        told("a+b<c+d", 3, 3, -1, -2, -2, -2, -2, -2, -2);
        told("c=0 or " + times(40), 0, -1, 86, 3, 0, 1, 2, 3, -2);
        told(times(40), 0, -1, 79, 2, 0, 1, -1, 1, -2);
        everything();
        for (int none : new int[] {LOWEST, -2, -1, 9, 10, HIGHEST}) {
            is("told " + none, -1, e -> e.told(0, none));
            is("told of question " + none, -1, e -> e.told(none, 0));
            is("told 3 of question " + none, -1, e -> e.told(none, 3));
        }
        is("question 1", 2, e -> e.told(1, 3));
        is("no question 2", -1, e -> e.told(2, 3));
        int q = ask(")");
        for (int none : new int[] {LOWEST, -2, -1, 9, 10, HIGHEST}) {
            is("told " + none + " of a fault", -1, e -> e.told(q, none));
        }
    }

    /** The place of a part is told by the name too many that it has first. */
    private static void placesOfParts() {
        scene = () -> fresh(2);
        fault("  a+b  =  c+d", 3, 7);
        fault("  a+b  <=  c+d", 3, 7);
        fault("a=b   and   c=d", 3, 6);
        fault("a=b   or   c=d", 3, 6);
        fault("a=b   so   c=d", 3, 6);
        scene = Court::thueMorse;
        fault("r0[a+b]  =  r0[c+d]", 3, 9);
        sound("r0[a+b]  =  r0[c+b]", 3, 1);
    }
}
