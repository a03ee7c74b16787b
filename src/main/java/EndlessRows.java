import java.util.Arrays;

/** A court for rows that never end, and for questions about them: see README.md and the document. */
public final class EndlessRows {
    public static final int NONE = -1;

    // The highest number that is told or answered.
    private static final long TOP = 1L << 62;
    // Stands for every number above TOP.
    private static final long OVER = TOP + 1;
    private static final int NO_ANSWER = -2;
    private static final int TOO_HIGH = -3;

    private static final int ROOM = 10;
    private static final int TAPE_ROOM = 120;
    private static final int SHEETS = 6;
    private static final int SHEET_ROOM = 40;
    private static final int LETTERS = 8;
    private static final int NAMES = 8;
    private static final int LEAST_STATES = 40;
    private static final int ROW_STATES = 60;
    private static final int WIDEST_FAN = 27;

    // Kinds of rows.
    private static final int MACHINE = 0;
    private static final int GROWN = 1;
    private static final int RING = 2;
    private static final int PAIR = 3;
    private static final int SOUGHT = 4;

    // Why a call is refused.
    private static final int DONE = 0;
    private static final int NONE_SUCH = 1;
    private static final int NO_ROOM = 2;
    private static final int NOT_SO = 3;
    private static final int NOTHING = 10;
    private static final int OTHER_SORT = 11;
    private static final int OUTSIDE = 12;
    private static final int BELOW_NOUGHT = 13;
    private static final int NO_FIT = 14;
    private static final int BY_NOUGHT = 15;

    // Forms of parts; and, or, so are also ways to join the marks of two machines, behind the ways of a pair.
    private static final int SUM_ATOM = 0;
    private static final int ROW_ATOM = 1;
    private static final int NOT_PART = 2;
    private static final int AND_PART = 3;
    private static final int OR_PART = 4;
    private static final int SO_PART = 5;
    private static final int ALL_PART = 6;
    private static final int IS_PART = 7;

    // Ways of a pair.
    private static final int SAME_WAY = 0;
    private static final int SUM_WAY = 1;
    private static final int GREATER_WAY = 2;

    // Tokens.
    private static final int END = 0;
    private static final int BAD = 1;
    private static final int NUMBER = 2;
    private static final int NAME = 3;
    private static final int ROW = 4;
    private static final int ALL = 5;
    private static final int IS = 6;
    private static final int NOT = 7;
    private static final int AND = 8;
    private static final int OR = 9;
    private static final int SO = 10;
    private static final int OPEN = 11;
    private static final int CLOSE = 12;
    private static final int LEFT = 13;
    private static final int RIGHT = 14;
    private static final int PLUS = 15;
    private static final int EQUAL = 16;
    private static final int LESS = 17;
    private static final int AT_MOST = 18;

    private final Row[] rows = new Row[ROOM];
    private final Question[] questions = new Question[ROOM];
    private final int[] tape = new int[TAPE_ROOM];
    private final int[][] cells = new int[SHEETS][SHEET_ROOM];
    private final int[] sorts = new int[SHEETS];
    private final int[] sizes = new int[SHEETS];
    private final int[] noughts = new int[SHEET_ROOM];
    private final Reader reader = new Reader();
    private final Weaver weaver = new Weaver();
    private final Reckoner reckoner = new Reckoner();
    private final Acts acts = new Acts();
    private int base = 2;
    private int rowCount = 0;
    private int questionCount = 0;
    private int tapeLength = 0;
    private int state = DONE;

    public EndlessRows() {
        for (int i = 0; i < ROOM; i++) {
            rows[i] = new Row();
            questions[i] = new Question();
        }
        Arrays.fill(sorts, NONE);
    }

    public int begin(int base) {
        if (base != 2 && base != 3) {
            return refuse(NONE_SUCH);
        }
        this.base = base;
        rowCount = 0;
        questionCount = 0;
        return done(1);
    }

    public int sheet(int sheet, int sort, int n) {
        if (!within(sheet, SHEETS) || sort < NONE || sort > 2) {
            return refuse(NONE_SUCH);
        }
        if (sort != NONE && (n < 0 || n > SHEET_ROOM)) {
            return refuse(NONE_SUCH);
        }
        sorts[sheet] = sort;
        sizes[sheet] = sort == NONE ? 0 : n;
        Arrays.fill(cells[sheet], 0);
        return done(1);
    }

    public int cell(int sheet, int i, int v) {
        if (!within(sheet, SHEETS) || v < 0 || v > 100) {
            return refuse(NONE_SUCH);
        }
        if (sorts[sheet] == NONE) {
            return refuse(NOTHING);
        }
        if (!within(i, sizes[sheet])) {
            return refuse(OUTSIDE);
        }
        cells[sheet][i] = v;
        return done(1);
    }

    public int machine(int steps, int letters, int sort, int n) {
        if (!within(steps, SHEETS) || !within(letters, SHEETS) || !within(sort, 3) || n < 1 || n > LETTERS) {
            return refuse(NONE_SUCH);
        }
        if (rowCount >= ROOM) {
            return refuse(NO_ROOM);
        }
        if (otherSort(steps, sort) || otherSort(letters, sort)) {
            return refuse(OTHER_SORT);
        }
        if (tooShort(steps, n * base) || tooShort(letters, n)) {
            return refuse(OUTSIDE);
        }
        if (!allBelow(numbers(steps), n * base, n) || !allBelow(numbers(letters), n, LETTERS)) {
            return refuse(NOT_SO);
        }
        weaver.weaveMachine(numbers(steps), numbers(letters), n, base, rows[rowCount].least);
        return made(MACHINE, NONE);
    }

    public int grown(int sheet, int sort, int n) {
        if (!within(sheet, SHEETS) || !within(sort, 3) || n < 1 || n > LETTERS) {
            return refuse(NONE_SUCH);
        }
        int why = sheetFault(sheet, sort, n * base);
        if (why != DONE) {
            return refuse(why);
        }
        int[] images = cells[sheet];
        if (!allBelow(images, n * base, n) || images[0] != 0) {
            return refuse(NOT_SO);
        }
        weaver.weaveGrown(images, n, base, rows[rowCount].least);
        return made(GROWN, NONE);
    }

    public int ring(int sheet, int sort, int begin, int length) {
        if (!within(sheet, SHEETS) || !within(sort, 3) || !within(begin, 7) || length < 1 || length > 6) {
            return refuse(NONE_SUCH);
        }
        int why = sheetFault(sheet, sort, begin + length);
        if (why != DONE) {
            return refuse(why);
        }
        if (!allBelow(cells[sheet], begin + length, LETTERS)) {
            return refuse(NOT_SO);
        }
        weaver.weaveRing(cells[sheet], begin, length, base, rows[rowCount].least);
        return made(RING, NONE);
    }

    public int pair(int a, int b, int way) {
        if (!within(a, rowCount) || !within(b, rowCount) || !within(way, 3)) {
            return refuse(NONE_SUCH);
        }
        if (rowCount >= ROOM) {
            return refuse(NO_ROOM);
        }
        if (!weaver.weavePair(rows[a].least, rows[b].least, way, base, rows[rowCount].least)) {
            return refuse(NOT_SO);
        }
        return made(PAIR, NONE);
    }

    public int sought(int question) {
        if (!within(question, questionCount)) {
            return refuse(NONE_SUCH);
        }
        if (rowCount >= ROOM) {
            return refuse(NO_ROOM);
        }
        Least least = askedOf(question, 1);
        if (least == null) {
            return refuse(NOT_SO);
        }
        rows[rowCount].least.become(least);
        return made(SOUGHT, question);
    }

    public int feed(int n, long bytes) {
        if (n < 1 || n > 8) {
            return refuse(NONE_SUCH);
        }
        if (tapeLength + n > TAPE_ROOM) {
            return refuse(NO_ROOM);
        }
        for (int i = 0; i < n; i++) {
            tape[tapeLength + i] = (int) (bytes >>> 8 * i) & 255;
        }
        tapeLength += n;
        return done(tapeLength);
    }

    public int question() {
        int length = tapeLength;
        tapeLength = 0;
        if (questionCount >= ROOM) {
            return refuse(NO_ROOM);
        }
        Question told = questions[questionCount];
        reader.readText(tape, length, rows, rowCount, told);
        if (told.fault == 0) {
            weaver.decide(reader.parts, told, rows, rowCount, base);
        }
        questionCount++;
        return done(questionCount - 1);
    }

    public int drop(int what) {
        if (what == 0) {
            return dropRow();
        }
        return what == 1 ? dropQuestion() : refuse(NONE_SUCH);
    }

    public int count(int what) {
        switch (what) {
            case 0: return rowCount;
            case 1: return questionCount;
            case 2: return tapeLength;
            case 3: return base;
            case 4: return acts.kept;
            default: return NONE;
        }
    }

    public int kind(int row) {
        return within(row, rowCount) ? rows[row].kind : NONE;
    }

    public int letter(int row, long number) {
        if (!within(row, rowCount) || number < 0 || number > TOP) {
            return NONE;
        }
        Least least = rows[row].least;
        return least.mark(least.reads(number, base));
    }

    public int width(int row) {
        return within(row, rowCount) ? rows[row].least.states : NONE;
    }

    public long differ(int a, int b) {
        if (!within(a, rowCount) || !within(b, rowCount)) {
            return NO_ANSWER;
        }
        return reckoner.leastUnlike(rows[a].least, rows[b].least, base);
    }

    public int told(int question, int what) {
        if (!within(question, questionCount) || what < 0 || what > 8) {
            return NONE;
        }
        Question told = questions[question];
        switch (what) {
            case 0: return told.fault;
            case 1: return told.place;
            case 2: return told.spent;
            default: return told.fault != 0 ? NO_ANSWER : told.more(what);
        }
    }

    public int step(int question, int i, int digits) {
        Least least = asked(question);
        if (least == null || !within(i, least.states) || !within(digits, least.fan)) {
            return NONE;
        }
        return least.after(i, digits);
    }

    public int takes(int question, int i) {
        Least least = asked(question);
        if (least == null || !within(i, least.states)) {
            return NONE;
        }
        return least.mark(i);
    }

    public int holds(int question, long first, long second, long third) {
        Least least = asked(question);
        if (least == null) {
            return NONE;
        }
        int many = Integer.bitCount(questions[question].names);
        if (many > 0 && outside(first) || many > 1 && outside(second) || many > 2 && outside(third)) {
            return NONE;
        }
        return least.mark(least.readsAll(many, first, second, third, base));
    }

    public long next(int question, long above) {
        Least least = askedOf(question, 1);
        if (least == null || above < -1 || above > TOP) {
            return NO_ANSWER;
        }
        return reckoner.leastAbove(least, above, base);
    }

    public long many(int question) {
        Least least = askedOf(question, 1);
        return least == null ? NO_ANSWER : reckoner.howMany(least, base);
    }

    public long values(int question, long second) {
        Least least = askedOf(question, 2);
        if (least == null || second < 0 || second > 1L << 30) {
            return NO_ANSWER;
        }
        return reckoner.howManyFirst(least, second, base);
    }

    public int alike(int a, int b) {
        Least one = asked(a);
        Least other = asked(b);
        if (one == null || other == null) {
            return NONE;
        }
        boolean asMany = Integer.bitCount(questions[a].names) == Integer.bitCount(questions[b].names);
        return asMany && one.isLike(other) ? 1 : 0;
    }

    public int act(int row, int act, int x) {
        if (!within(row, rowCount) || !within(act, 4)) {
            return refuse(NONE_SUCH);
        }
        return done(acts.run(rows[row].kind, row, rows[row].least.states, act, x));
    }

    public int trace(int i) {
        return within(i, acts.kept) ? acts.trace[i] : NONE;
    }

    public int forge(int what, int n, int k) {
        if (what < 0 || what > 6 || n < -100 || n > 100 || k < -100 || k > 100) {
            return refuse(NONE_SUCH);
        }
        int row = Math.floorMod(k, ROOM);
        int sheet = Math.floorMod(k, SHEETS);
        switch (what) {
            case 0: return forgeKind(row, Math.floorMod(n, 5));
            case 1: return n < 0 ? refuse(BELOW_NOUGHT) : done(n);
            case 2: return forgeNumber(sheet, n);
            case 3: return forgeCopy(sheet, n);
            case 4: return forgeStore(row);
            case 5: return n == 0 ? refuse(BY_NOUGHT) : done(1000 / n);
            default: return Math.floorMod(n, 2) == 0 ? refuse(NOTHING) : done(1);
        }
    }

    public int status() {
        return state;
    }

    private int refuse(int why) {
        state = why;
        return NONE;
    }

    private int done(int answer) {
        state = DONE;
        return answer;
    }

    private static boolean within(int i, int size) {
        return i >= 0 && i < size;
    }

    private static boolean outside(long number) {
        return number < 0 || number > TOP;
    }

    private boolean otherSort(int sheet, int sort) {
        return sorts[sheet] != NONE && sorts[sheet] != sort;
    }

    private boolean tooShort(int sheet, int size) {
        return sorts[sheet] != NONE && sizes[sheet] < size;
    }

    private int[] numbers(int sheet) {
        return sorts[sheet] == NONE ? noughts : cells[sheet];
    }

    private static boolean allBelow(int[] numbers, int size, int bound) {
        for (int i = 0; i < size && i < numbers.length; i++) {
            if (numbers[i] >= bound) {
                return false;
            }
        }
        return true;
    }

    // Why no row of so many numbers can be made of a sheet that must be there.
    private int sheetFault(int sheet, int sort, int size) {
        if (rowCount >= ROOM) {
            return NO_ROOM;
        }
        if (sorts[sheet] == NONE) {
            return NOTHING;
        }
        if (sorts[sheet] != sort) {
            return OTHER_SORT;
        }
        return sizes[sheet] < size ? OUTSIDE : DONE;
    }

    private int made(int kind, int question) {
        rows[rowCount].kind = kind;
        rows[rowCount].question = question;
        rowCount++;
        return done(rowCount - 1);
    }

    private Least asked(int question) {
        if (!within(question, questionCount)) {
            return null;
        }
        Question told = questions[question];
        return told.fault != 0 || told.spent != NONE ? null : told.least;
    }

    private Least askedOf(int question, int names) {
        Least least = asked(question);
        return least != null && Integer.bitCount(questions[question].names) == names ? least : null;
    }

    private int dropRow() {
        int latest = rowCount - 1;
        if (latest < 0) {
            return refuse(NOT_SO);
        }
        for (int i = 0; i < questionCount; i++) {
            if (questions[i].fault == 0 && (questions[i].rows >> latest & 1) != 0) {
                return refuse(NOT_SO);
            }
        }
        rowCount = latest;
        return done(latest);
    }

    private int dropQuestion() {
        int latest = questionCount - 1;
        if (latest < 0) {
            return refuse(NOT_SO);
        }
        for (int i = 0; i < rowCount; i++) {
            if (rows[i].kind == SOUGHT && rows[i].question == latest) {
                return refuse(NOT_SO);
            }
        }
        questionCount = latest;
        return done(latest);
    }

    private int forgeKind(int row, int kind) {
        if (row >= rowCount) {
            return refuse(NOTHING);
        }
        int own = rows[row].kind;
        boolean under = kind == MACHINE || kind == GROWN && own == RING;
        return own == kind || under ? done(own) : refuse(OTHER_SORT);
    }

    private int forgeNumber(int sheet, int i) {
        if (sorts[sheet] == NONE) {
            return refuse(NOTHING);
        }
        if (sorts[sheet] != 1) {
            return refuse(OTHER_SORT);
        }
        return within(i, sizes[sheet]) ? done(cells[sheet][i]) : refuse(OUTSIDE);
    }

    private int forgeCopy(int sheet, int n) {
        if (sorts[sheet] == NONE) {
            return refuse(NOTHING);
        }
        if (sorts[sheet] != 0) {
            return refuse(OTHER_SORT);
        }
        if (n < 0 || n + 2 > sizes[sheet] || n + n > 5) {
            return refuse(OUTSIDE);
        }
        int sum = 0;
        for (int i = 2; i < n + 2; i++) {
            sum += cells[sheet][i];
        }
        return done(sum);
    }

    private int forgeStore(int row) {
        if (row >= rowCount) {
            return done(0);
        }
        int kind = rows[row].kind;
        return kind == GROWN || kind == RING ? done(kind) : refuse(NO_FIT);
    }

    /** A least machine, its states numbered as they are met; each has a mark (a letter, or whether it takes). */
    private static final class Least {
        // 3 to the 39, the highest power of 3 that is not above TOP.
        private static final long HIGHEST_OF_THREE = 4052555153018976267L;

        private final int[] moves;
        private final int[] marks;
        private int states = 0;
        private int fan = 1;

        Least(int mostStates, int widestFan) {
            moves = new int[mostStates * widestFan];
            marks = new int[mostStates];
        }

        int after(int state, int digits) {
            if (state < 0 || state >= states || digits < 0 || digits >= fan) {
                return 0;
            }
            int place = state * fan + digits;
            return place < moves.length ? moves[place] : 0;
        }

        int mark(int state) {
            return within(state, states) && within(state, marks.length) ? marks[state] : 0;
        }

        void size(int states, int fan) {
            this.states = Math.min(states, marks.length);
            this.fan = fan;
        }

        void put(int state, int digits, int to) {
            int place = state * fan + digits;
            if (place >= 0 && place < moves.length) {
                moves[place] = to;
            }
        }

        void putMark(int state, int mark) {
            if (state >= 0 && state < marks.length) {
                marks[state] = mark;
            }
        }

        void become(Least other) {
            size(other.states, other.fan);
            for (int i = 0; i < states; i++) {
                putMark(i, other.mark(i));
                for (int digits = 0; digits < fan; digits++) {
                    put(i, digits, other.after(i, digits));
                }
            }
        }

        /** The machine of no names that tells this mark. */
        void becomeOnly(int mark) {
            size(1, 1);
            put(0, 0, 0);
            putMark(0, mark);
        }

        void becomeContrary(Least other) {
            become(other);
            for (int i = 0; i < states; i++) {
                putMark(i, 1 - other.mark(i));
            }
        }

        boolean isLike(Least other) {
            if (states != other.states || fan != other.fan) {
                return false;
            }
            for (int i = 0; i < states; i++) {
                if (mark(i) != other.mark(i)) {
                    return false;
                }
                for (int digits = 0; digits < fan; digits++) {
                    if (after(i, digits) != other.after(i, digits)) {
                        return false;
                    }
                }
            }
            return true;
        }

        int reads(long number, int base) {
            return readsAll(1, number, 0, 0, base);
        }

        /** The state behind the digits of the first so many of three numbers; noughts ahead lead nowhere. */
        int readsAll(int many, long first, long second, long third, int base) {
            int state = 0;
            long power = base == 2 ? TOP : HIGHEST_OF_THREE;
            for (int i = 0; i < 63 && power > 0 && base > 1; i++) {
                int digits = 0;
                if (many > 0) {
                    digits = (int) (first / power % base);
                }
                if (many > 1) {
                    digits = digits * base + (int) (second / power % base);
                }
                if (many > 2) {
                    digits = digits * base + (int) (third / power % base);
                }
                state = after(state, digits);
                power /= base;
            }
            return state;
        }
    }

    /** A row that stands: its kind, the question it is sought of, and its least machine. */
    private static final class Row {
        private final Least least = new Least(ROW_STATES, 3);
        private int kind = MACHINE;
        private int question = NONE;
    }

    /** What is known of a question that was told. */
    private static final class Question {
        private final Least least = new Least(LEAST_STATES, WIDEST_FAN);
        private int fault = 0;
        private int place = NONE;
        private int spent = NONE;
        private int names = 0;
        private int parts = 0;
        private int rows = 0;

        void clear() {
            fault = 0;
            place = NONE;
            spent = NONE;
            names = 0;
            parts = 0;
            rows = 0;
        }

        void blame(int fault, int place) {
            this.fault = fault;
            this.place = place;
        }

        int more(int what) {
            if (what == 3) {
                return Integer.bitCount(names);
            }
            if (what == 7) {
                return parts;
            }
            if (what == 8) {
                return spent != NONE ? NO_ANSWER : least.states;
            }
            return freeName(what - 4);
        }

        private int freeName(int i) {
            int ahead = 0;
            for (int name = 0; name < NAMES; name++) {
                if ((names >> name & 1) != 0) {
                    if (ahead == i) {
                        return name;
                    }
                    ahead++;
                }
            }
            return NONE;
        }
    }

    /** One side of an atom: a row with its index, or a sum (also the number behind a row). */
    private static final class Side {
        private final int[] times = new int[NAMES];
        private int row = NONE;
        private int number = 0;
        private int names = 0;

        void clear() {
            Arrays.fill(times, 0);
            row = NONE;
            number = 0;
            names = 0;
        }

        void addName(int name) {
            if (name >= 0 && name < NAMES) {
                times[name]++;
                names |= 1 << name;
            }
        }
    }

    /** A part of a question; left and right tell the parts it is made of by their order. */
    private static final class Part {
        private final Side leftSide = new Side();
        private final Side rightSide = new Side();
        private final Least least = new Least(LEAST_STATES, WIDEST_FAN);
        private int form = SUM_ATOM;
        private int place = 0;
        private int left = NONE;
        private int right = NONE;
        private int sign = EQUAL;
        private int names = 0;
    }

    /** The tokens of a text, with a last one for its end. */
    private static final class Tokens {
        private final int[] kinds = new int[TAPE_ROOM + 1];
        private final int[] places = new int[TAPE_ROOM + 1];
        private final int[] worths = new int[TAPE_ROOM + 1];
        private int[] text = new int[0];
        private int length = 0;
        private int many = 0;

        void cut(int[] text, int length) {
            this.text = text;
            this.length = Math.min(length, Math.min(text.length, TAPE_ROOM));
            many = 0;
            int at = 0;
            for (int i = 0; i < TAPE_ROOM && at < this.length; i++) {
                at = byteAt(at) == ' ' ? at + 1 : cutOne(at);
            }
            add(END, this.length, 0);
        }

        private void add(int kind, int place, int worth) {
            if (many < kinds.length) {
                kinds[many] = kind;
                places[many] = place;
                worths[many] = worth;
                many++;
            }
        }

        private int byteAt(int at) {
            return at >= 0 && at < length ? text[at] : NONE;
        }

        private boolean isLetter(int at) {
            return byteAt(at) >= 'a' && byteAt(at) <= 'z';
        }

        private boolean isDigit(int at) {
            return byteAt(at) >= '0' && byteAt(at) <= '9';
        }

        // Answers where the next token can begin.
        private int cutOne(int at) {
            if (isLetter(at)) {
                return cutLetters(at);
            }
            if (isDigit(at)) {
                return cutNumber(at);
            }
            boolean atMost = byteAt(at) == '<' && byteAt(at + 1) == '=';
            add(atMost ? AT_MOST : sign(byteAt(at)), at, 0);
            return atMost ? at + 2 : at + 1;
        }

        private static int sign(int sign) {
            switch (sign) {
                case '(': return OPEN;
                case ')': return CLOSE;
                case '[': return LEFT;
                case ']': return RIGHT;
                case '+': return PLUS;
                case '=': return EQUAL;
                case '<': return LESS;
                default: return BAD;
            }
        }

        private int cutNumber(int at) {
            int end = at;
            int worth = 0;
            while (end < length && isDigit(end)) {
                worth = (worth * 10 + byteAt(end) - '0') % 100;
                end++;
            }
            add(end - at > 2 ? BAD : NUMBER, at, worth);
            return end;
        }

        private int cutLetters(int at) {
            int end = at;
            while (end < length && isLetter(end)) {
                end++;
            }
            if (end == at + 1 && byteAt(at) == 'r' && isDigit(end)) {
                add(ROW, at, byteAt(end) - '0');
                return end + 1;
            }
            if (end == at + 1 && byteAt(at) <= 'h') {
                add(NAME, at, byteAt(at) - 'a');
                return end;
            }
            add(key(at, end), at, 0);
            return end;
        }

        private int key(int at, int end) {
            if (isWord(at, end, "all")) {
                return ALL;
            }
            if (isWord(at, end, "is")) {
                return IS;
            }
            if (isWord(at, end, "not")) {
                return NOT;
            }
            if (isWord(at, end, "and")) {
                return AND;
            }
            if (isWord(at, end, "or")) {
                return OR;
            }
            return isWord(at, end, "so") ? SO : BAD;
        }

        private boolean isWord(int at, int end, String word) {
            if (end - at != word.length()) {
                return false;
            }
            for (int i = 0; i < word.length(); i++) {
                if (byteAt(at + i) != word.charAt(i)) {
                    return false;
                }
            }
            return true;
        }
    }

    /** Reads a text: its faults, or its parts in the order in which they end. */
    private static final class Reader {
        private static final int MOST_PARTS = 60;
        private static final int DEEPEST = 10;
        // No text of a tape has as many formulas one within the other.
        private static final int MOST_OPEN = 40;
        private static final int WIDEST_SUMMED = 6;

        private final Tokens tokens = new Tokens();
        private final Part[] parts = new Part[MOST_PARTS];
        private Row[] rows = new Row[0];
        private int rowCount = 0;
        private int count = 0;
        private int at = 0;
        private int broken = NONE;
        private int odd = NONE;
        private int bound = 0;
        private int named = 0;

        Reader() {
            for (int i = 0; i < MOST_PARTS; i++) {
                parts[i] = new Part();
            }
        }

        void readText(int[] text, int length, Row[] rows, int rowCount, Question told) {
            tokens.cut(text, length);
            this.rows = rows;
            this.rowCount = Math.min(rowCount, rows.length);
            count = 0;
            at = 0;
            broken = NONE;
            odd = NONE;
            bound = 0;
            named = 0;
            int whole = formula(0, 0, 0);
            if (whole >= 0 && peek() != END) {
                fail();
            }
            tell(told);
        }

        private void tell(Question told) {
            told.clear();
            int crowded = crowded();
            if (broken != NONE) {
                told.blame(1, tokens.places[broken]);
            } else if (odd != NONE) {
                told.blame(2, odd);
            } else if (crowded != NONE) {
                told.blame(3, crowded);
            } else if (count > 0) {
                told.names = parts[count - 1].names;
                told.parts = count;
                told.rows = named;
            }
        }

        private int crowded() {
            for (int i = 0; i < count; i++) {
                if (Integer.bitCount(parts[i].names) > 3) {
                    return parts[i].place;
                }
            }
            return NONE;
        }

        private int peek() {
            return at < tokens.many ? tokens.kinds[at] : END;
        }

        private int place() {
            return at < tokens.many ? tokens.places[at] : tokens.length;
        }

        private int worth() {
            return at < tokens.many ? tokens.worths[at] : 0;
        }

        private boolean eat(int kind) {
            if (peek() != kind) {
                fail();
                return false;
            }
            at++;
            return true;
        }

        // The token that can't stand where it stands: the first one, for nothing is read behind it.
        private int fail() {
            if (broken == NONE) {
                broken = Math.min(at, TAPE_ROOM);
            }
            return NONE;
        }

        private void blame(int place) {
            if (odd == NONE || place < odd) {
                odd = place;
            }
        }

        /** Level 0: so (the right one first), 1: or, 2: and (the left one first); answers the part, or NONE. */
        private int formula(int level, int depth, int open) {
            if (level > 2) {
                return piece(depth, open);
            }
            if (open > MOST_OPEN) {
                return fail();
            }
            int key = level == 0 ? SO : level == 1 ? OR : AND;
            int form = level == 0 ? SO_PART : level == 1 ? OR_PART : AND_PART;
            int left = formula(level + 1, depth, open);
            for (int i = 0; i < TAPE_ROOM && left >= 0 && peek() == key; i++) {
                int place = place();
                at++;
                int right = level == 0 ? formula(0, depth, open + 1) : formula(level + 1, depth, open);
                left = right < 0 ? NONE : join(form, place, left, right);
            }
            return left;
        }

        private int piece(int depth, int open) {
            if (depth >= DEEPEST) {
                return fail();
            }
            switch (peek()) {
                case NOT: return contrary(depth, open);
                case ALL: return bind(ALL_PART, depth, open);
                case IS: return bind(IS_PART, depth, open);
                case OPEN: return enclosed(depth, open);
                case ROW: return rowAtom();
                case NUMBER:
                case NAME: return sumAtom();
                default: return fail();
            }
        }

        private int contrary(int depth, int open) {
            int place = place();
            at++;
            int inner = piece(depth + 1, open);
            return inner < 0 ? NONE : join(NOT_PART, place, inner, NONE);
        }

        private int enclosed(int depth, int open) {
            at++;
            int inner = formula(0, depth + 1, open + 1);
            return inner >= 0 && eat(CLOSE) ? inner : NONE;
        }

        private int bind(int form, int depth, int open) {
            int place = place();
            at++;
            int bit = 1 << worth();
            if (peek() == NAME && (bound & bit) != 0) {
                blame(place());
            }
            if (!eat(NAME)) {
                return NONE;
            }
            int ahead = bound;
            bound |= bit;
            int inner = piece(depth + 1, open);
            bound = ahead;
            if (inner < 0) {
                return NONE;
            }
            int part = join(form, place, inner, NONE);
            if (part >= 0) {
                parts[part].names &= ~bit;
            }
            return part;
        }

        private int join(int form, int place, int left, int right) {
            if (count >= MOST_PARTS) {
                return fail();
            }
            Part part = parts[count];
            part.form = form;
            part.place = place;
            part.left = left;
            part.right = right;
            part.names = 0;
            if (within(left, count)) {
                part.names |= parts[left].names;
            }
            if (within(right, count)) {
                part.names |= parts[right].names;
            }
            count++;
            return count - 1;
        }

        private int rowAtom() {
            if (count >= MOST_PARTS) {
                return fail();
            }
            Part part = parts[count];
            if (!entry(part.leftSide)) {
                return NONE;
            }
            int place = place();
            if (!eat(EQUAL)) {
                return NONE;
            }
            if (peek() == NUMBER) {
                part.rightSide.clear();
                part.rightSide.number = worth();
                if (worth() >= LETTERS) {
                    blame(place());
                }
                at++;
            } else if (!entry(part.rightSide)) {
                return NONE;
            }
            return atom(ROW_ATOM, place, EQUAL);
        }

        private int atom(int form, int place, int sign) {
            int part = join(form, place, NONE, NONE);
            if (part >= 0) {
                parts[part].sign = sign;
                parts[part].names = parts[part].leftSide.names | parts[part].rightSide.names;
            }
            return part;
        }

        private boolean entry(Side side) {
            side.clear();
            int row = worth();
            int place = place();
            if (!eat(ROW) || !eat(LEFT)) {
                return false;
            }
            side.row = row;
            side.addName(worth());
            if (!eat(NAME)) {
                return false;
            }
            boolean more = peek() == PLUS;
            if (more) {
                at++;
                if (!takeTerm(side, 3)) {
                    return false;
                }
            }
            if (row >= rowCount || more && rows[row].least.states > WIDEST_SUMMED) {
                blame(place);
            } else {
                named |= 1 << row;
            }
            return eat(RIGHT);
        }

        private int sumAtom() {
            if (count >= MOST_PARTS) {
                return fail();
            }
            Part part = parts[count];
            if (!sum(part.leftSide)) {
                return NONE;
            }
            int place = place();
            int sign = peek();
            if (sign != EQUAL && sign != LESS && sign != AT_MOST) {
                return fail();
            }
            at++;
            return sum(part.rightSide) ? atom(SUM_ATOM, place, sign) : NONE;
        }

        private boolean sum(Side side) {
            side.clear();
            for (int i = 0; i < TAPE_ROOM; i++) {
                if (!takeTerm(side, 99)) {
                    return false;
                }
                if (peek() != PLUS) {
                    return true;
                }
                at++;
            }
            return false;
        }

        // A number or a name, where the numbers so far may not make more than a told one.
        private boolean takeTerm(Side side, int most) {
            if (peek() == NUMBER) {
                side.number += worth();
                if (side.number > most) {
                    blame(place());
                }
            } else if (peek() == NAME) {
                side.addName(worth());
            } else {
                fail();
                return false;
            }
            at++;
            return true;
        }
    }

    /** Makes the least machine of one that is told state by state; a state is met by a key of the caller's. */
    private static final class Loom {
        private static final int MOST_MET = ROW_STATES * ROW_STATES;
        private static final int MOST_LINKS = LEAST_STATES * LEAST_STATES * WIDEST_FAN;
        private static final int MOST_TURNS = 1000000;

        private final int[] keys = new int[MOST_MET];
        private final int[] ids = new int[MOST_MET];
        private final int[] marks = new int[MOST_MET];
        private final int[] links = new int[MOST_LINKS];
        private final int[] classes = new int[MOST_MET];
        private final int[] fresh = new int[MOST_MET];
        private final int[] table = new int[MOST_MET];
        private int keyRoom = 0;
        private int fan = 1;
        private int met = 0;

        void open(int keyRoom, int fan) {
            this.keyRoom = Math.max(0, Math.min(keyRoom, MOST_MET));
            this.fan = fan;
            met = 0;
            Arrays.fill(ids, 0, this.keyRoom, NONE);
        }

        /** The state with this key; a new one if it was not met. */
        int meet(int key) {
            if (!within(key, keyRoom)) {
                return NONE;
            }
            if (ids[key] == NONE) {
                ids[key] = met;
                keys[met] = key;
                marks[met] = 0;
                met++;
            }
            return ids[key];
        }

        int keyOf(int id) {
            return within(id, met) ? keys[id] : 0;
        }

        void link(int id, int digits, int to) {
            int place = id * fan + digits;
            if (within(id, met) && within(digits, fan) && within(place, links.length)) {
                links[place] = to;
            }
        }

        void putMark(int id, int mark) {
            if (within(id, met)) {
                marks[id] = mark;
            }
        }

        private int linkOf(int id, int digits) {
            int place = id * fan + digits;
            if (place < 0 || place >= links.length) {
                return 0;
            }
            int to = links[place];
            return to >= 0 && to < met ? to : 0;
        }

        /** Draws the least machine, unless it has more than so many states. */
        boolean draw(Least into, int most) {
            int many = splitByMarks();
            int quiet = 0;
            int digits = 0;
            for (int turn = 0; turn < MOST_TURNS && quiet < fan && many <= most; turn++) {
                int more = splitByLinks(digits, many);
                quiet = more == many ? quiet + 1 : 0;
                many = more;
                digits = digits + 1 < fan ? digits + 1 : 0;
            }
            if (many < 1 || many > most) {
                return false;
            }
            number(into, many);
            return true;
        }

        private int splitByMarks() {
            Arrays.fill(table, 0, LETTERS, NONE);
            int many = 0;
            for (int id = 0; id < met; id++) {
                int mark = within(marks[id], LETTERS) ? marks[id] : 0;
                if (table[mark] == NONE) {
                    table[mark] = many;
                    many++;
                }
                classes[id] = table[mark];
            }
            return many;
        }

        // Two states stay together if this row of digits leads them to states that are together.
        private int splitByLinks(int digits, int many) {
            if (many * many > table.length) {
                return many;
            }
            Arrays.fill(table, 0, many * many, NONE);
            int more = 0;
            for (int id = 0; id < met; id++) {
                int both = classes[id] * many + classes[linkOf(id, digits)];
                if (table[both] == NONE) {
                    table[both] = more;
                    more++;
                }
                fresh[id] = table[both];
            }
            System.arraycopy(fresh, 0, classes, 0, met);
            return more;
        }

        // Numbers the classes as they are met from the first one's on.
        private void number(Least into, int many) {
            Arrays.fill(table, 0, many, NONE);
            table[classes[0]] = 0;
            fresh[0] = 0;
            int found = 1;
            into.size(many, fan);
            for (int i = 0; i < many && i < found; i++) {
                into.putMark(i, marks[fresh[i]]);
                for (int digits = 0; digits < fan; digits++) {
                    int to = linkOf(fresh[i], digits);
                    if (table[classes[to]] == NONE) {
                        table[classes[to]] = found;
                        fresh[found] = to;
                        found++;
                    }
                    into.put(i, digits, table[classes[to]]);
                }
            }
        }
    }

    /** Weaves the least machines of rows and of parts. */
    private static final class Weaver {
        private static final int MOST_SETS = 300;
        private static final int SLOTS = 1024;

        private final Loom loom = new Loom();
        private final Least leftLetters = new Least(LEAST_STATES, 9);
        private final Least rightLetters = new Least(LEAST_STATES, 9);
        private final int[] leftView = new int[WIDEST_FAN];
        private final int[] rightView = new int[WIDEST_FAN];
        private final int[] weights = new int[NAMES];
        private final int[] places = new int[4];
        private final long[] sets = new long[MOST_SETS];
        private final int[] slots = new int[SLOTS];
        private final long[] onward = new long[WIDEST_FAN];
        private int setCount = 0;
        private int base = 2;

        // A first state of its own bears the noughts ahead, which state 0 may not.
        void weaveMachine(int[] steps, int[] letters, int n, int base, Least into) {
            loom.open(n + 1, base);
            loom.meet(n);
            for (int id = 0; id < loom.met && id <= n; id++) {
                int key = loom.keyOf(id);
                int own = key == n ? 0 : key;
                loom.putMark(id, at(letters, own));
                for (int digit = 0; digit < base; digit++) {
                    boolean ahead = key == n && digit == 0;
                    loom.link(id, digit, loom.meet(ahead ? n : at(steps, own * base + digit)));
                }
            }
            loom.draw(into, ROW_STATES);
        }

        void weaveGrown(int[] images, int n, int base, Least into) {
            loom.open(n, base);
            loom.meet(0);
            for (int id = 0; id < loom.met && id < n; id++) {
                int letter = loom.keyOf(id);
                loom.putMark(id, letter);
                for (int digit = 0; digit < base; digit++) {
                    loom.link(id, digit, loom.meet(at(images, letter * base + digit)));
                }
            }
            loom.draw(into, ROW_STATES);
        }

        void weaveRing(int[] letters, int begin, int length, int base, Least into) {
            int end = begin + length;
            loom.open(end, base);
            loom.meet(0);
            for (int id = 0; id < loom.met && id < end; id++) {
                int place = loom.keyOf(id);
                loom.putMark(id, at(letters, place));
                for (int digit = 0; digit < base; digit++) {
                    int far = place * base + digit;
                    boolean around = far >= end && length > 0;
                    loom.link(id, digit, loom.meet(around ? begin + (far - begin) % length : far));
                }
            }
            loom.draw(into, ROW_STATES);
        }

        boolean weavePair(Least a, Least b, int way, int base, Least into) {
            this.base = base;
            return product(a, 1, b, 1, way, into, ROW_STATES);
        }

        /** The machines of the parts, in the order in which they end, until one is spent. */
        void decide(Part[] parts, Question told, Row[] rows, int rowCount, int base) {
            this.base = base;
            for (int i = 0; i < told.parts && i < parts.length; i++) {
                Part part = parts[i];
                boolean ofRows = part.form == ROW_ATOM;
                if (!(ofRows ? weaveRows(part, rows, rowCount) : weavePart(part, parts))) {
                    told.spent = part.place;
                    return;
                }
            }
            if (within(told.parts - 1, parts.length)) {
                told.least.become(parts[told.parts - 1].least);
            }
        }

        private boolean weavePart(Part part, Part[] parts) {
            if (part.form == SUM_ATOM) {
                return weaveSums(part);
            }
            if (!within(part.left, parts.length)) {
                return false;
            }
            Part left = parts[part.left];
            if (part.form == NOT_PART) {
                part.least.becomeContrary(left.least);
                return true;
            }
            if (part.form == ALL_PART || part.form == IS_PART) {
                return weaveBound(part, left);
            }
            if (!within(part.right, parts.length)) {
                return false;
            }
            Part right = parts[part.right];
            return product(left.least, left.names, right.least, right.names, part.form, part.least, LEAST_STATES);
        }

        private static int at(int[] numbers, int i) {
            return within(i, numbers.length) ? numbers[i] : 0;
        }

        private static int power(int number, int times) {
            int power = 1;
            for (int i = 0; i < times && i < NAMES; i++) {
                power *= number;
            }
            return power;
        }

        private int fan(int names) {
            return power(base, Integer.bitCount(names));
        }

        // What is seen of a row of digits of all these names by one who knows but some of them.
        private int view(int digits, int all, int some) {
            int seen = 0;
            int worth = 1;
            int rest = digits;
            for (int name = NAMES - 1; name >= 0 && base > 1; name--) {
                if ((all >> name & 1) != 0) {
                    if ((some >> name & 1) != 0) {
                        seen += rest % base * worth;
                        worth *= base;
                    }
                    rest /= base;
                }
            }
            return seen;
        }

        private void fillViews(int[] views, int all, int some) {
            int fan = fan(all);
            for (int digits = 0; digits < fan && digits < views.length; digits++) {
                views[digits] = view(digits, all, some);
            }
        }

        // What these digits add, each as often as its name stands.
        private int load(int digits, int names, int[] times) {
            int load = 0;
            int rest = digits;
            for (int name = NAMES - 1; name >= 0 && base > 1; name--) {
                if ((names >> name & 1) != 0) {
                    load += at(times, name) * (rest % base);
                    rest /= base;
                }
            }
            return load;
        }

        private boolean product(Least a, int namesA, Least b, int namesB, int way, Least into, int most) {
            int names = namesA | namesB;
            int fan = Math.min(fan(names), WIDEST_FAN);
            fillViews(leftView, names, namesA);
            fillViews(rightView, names, namesB);
            int wide = b.states;
            loom.open(a.states * wide, fan);
            loom.meet(0);
            for (int id = 0; id < loom.met && id < Loom.MOST_MET && wide > 0; id++) {
                int left = loom.keyOf(id) / wide;
                int right = loom.keyOf(id) % wide;
                loom.putMark(id, joined(way, a.mark(left), b.mark(right)));
                for (int digits = 0; digits < fan; digits++) {
                    int to = a.after(left, leftView[digits]) * wide + b.after(right, rightView[digits]);
                    loom.link(id, digits, loom.meet(to));
                }
            }
            return loom.draw(into, most);
        }

        private static int joined(int way, int a, int b) {
            switch (way) {
                case SAME_WAY: return a == b ? 1 : 0;
                case SUM_WAY: return a + b & 7;
                case GREATER_WAY: return Math.max(a, b);
                case AND_PART: return a & b;
                case OR_PART: return a | b;
                default: return 1 - a | b;
            }
        }

        private boolean weaveRows(Part part, Row[] rows, int rowCount) {
            Side left = part.leftSide;
            Side right = part.rightSide;
            if (!within(left.row, rowCount) || !weaveLetters(left, rows[left.row].least, leftLetters)) {
                return false;
            }
            if (!within(right.row, rowCount)) {
                rightLetters.becomeOnly(right.number);
            } else if (!weaveLetters(right, rows[right.row].least, rightLetters)) {
                return false;
            }
            return product(leftLetters, left.names, rightLetters, right.names, SAME_WAY, part.least, LEAST_STATES);
        }

        // A state tells, for each j up to the last, where the row's machine stands behind the sum so far plus j.
        private boolean weaveLetters(Side side, Least row, Least into) {
            int total = 0;
            for (int name = 0; name < NAMES; name++) {
                total += side.times[name];
            }
            int last = Math.min(Math.max(total - 1, side.number), places.length - 1);
            int fan = fan(side.names);
            loom.open(power(row.states, last + 1), fan);
            for (int j = 0; j <= last; j++) {
                places[j] = row.readsAll(1, j, 0, 0, base);
            }
            loom.meet(keyOfPlaces(row.states, last));
            for (int id = 0; id < loom.met && id < Loom.MOST_MET; id++) {
                int key = loom.keyOf(id);
                loom.putMark(id, row.mark(placeIn(key, row.states, side.number)));
                for (int digits = 0; digits < fan; digits++) {
                    int load = load(digits, side.names, side.times);
                    for (int j = 0; j <= last && base > 1; j++) {
                        int from = placeIn(key, row.states, (load + j) / base);
                        places[j] = row.after(from, (load + j) % base);
                    }
                    loom.link(id, digits, loom.meet(keyOfPlaces(row.states, last)));
                }
            }
            return loom.draw(into, LEAST_STATES);
        }

        private int keyOfPlaces(int wide, int last) {
            int key = 0;
            for (int j = Math.min(last, places.length - 1); j >= 0; j--) {
                key = key * wide + places[j];
            }
            return key;
        }

        private static int placeIn(int key, int wide, int j) {
            int rest = key;
            for (int i = 0; i < j && i < NAMES && wide > 0; i++) {
                rest /= wide;
            }
            return wide > 0 ? rest % wide : 0;
        }

        // A state is the left sum less the right one, without their numbers; from either end no digits bring it back.
        private boolean weaveSums(Part part) {
            int less = part.leftSide.number - part.rightSide.number;
            int lowest = 0;
            int highest = 0;
            for (int name = 0; name < NAMES; name++) {
                weights[name] = part.leftSide.times[name] - part.rightSide.times[name];
                lowest -= Math.max(weights[name], 0);
                highest -= Math.min(weights[name], 0);
            }
            lowest = Math.min(lowest, -1 - less);
            highest = Math.max(highest, 1 - less);
            int fan = Math.min(fan(part.names), WIDEST_FAN);
            loom.open(highest - lowest + 1, fan);
            loom.meet(-lowest);
            for (int id = 0; id < loom.met && id < Loom.MOST_MET; id++) {
                int more = loom.keyOf(id) + lowest;
                loom.putMark(id, compares(part.sign, more + less));
                for (int digits = 0; digits < fan; digits++) {
                    int to = base * more + load(digits, part.names, weights);
                    loom.link(id, digits, loom.meet(Math.max(lowest, Math.min(highest, to)) - lowest));
                }
            }
            return loom.draw(part.least, LEAST_STATES);
        }

        private static int compares(int sign, int more) {
            boolean so = sign == EQUAL ? more == 0 : sign == LESS ? more < 0 : more <= 0;
            return so ? 1 : 0;
        }

        private boolean weaveBound(Part part, Part inner) {
            if (part.names == inner.names) {
                part.least.become(inner.least);
                return true;
            }
            Least child = inner.least;
            fillViews(leftView, inner.names, part.names);
            int fan = Math.min(fan(part.names), WIDEST_FAN);
            long takers = takers(child);
            loom.open(MOST_SETS, fan);
            setCount = 0;
            Arrays.fill(slots, NONE);
            loom.meet(meetSet(firstSet(child)));
            for (int i = 0; i < setCount && i < MOST_SETS; i++) {
                boolean takes = part.form == IS_PART ? (sets[i] & takers) != 0 : (sets[i] & ~takers) == 0;
                loom.putMark(i, takes ? 1 : 0);
                spread(child, sets[i]);
                for (int digits = 0; digits < fan; digits++) {
                    int to = meetSet(onward[digits]);
                    if (to == NONE) {
                        return false;
                    }
                    loom.link(i, digits, loom.meet(to));
                }
            }
            return loom.draw(part.least, LEAST_STATES);
        }

        private static long takers(Least child) {
            long takers = 0;
            for (int i = 0; i < child.states; i++) {
                if (child.mark(i) == 1) {
                    takers |= 1L << i;
                }
            }
            return takers;
        }

        private long firstSet(Least child) {
            long set = 1;
            for (int turn = 0; turn < LEAST_STATES; turn++) {
                spread(child, set);
                long more = set | onward[0];
                if (more == set) {
                    return set;
                }
                set = more;
            }
            return set;
        }

        // Where a set steps for each row of digits of the others, whatever the bound name's digit.
        private void spread(Least child, long set) {
            Arrays.fill(onward, 0);
            for (int i = 0; i < child.states; i++) {
                if ((set >> i & 1) != 0) {
                    for (int digits = 0; digits < child.fan && digits < leftView.length; digits++) {
                        onward[leftView[digits]] |= 1L << child.after(i, digits);
                    }
                }
            }
        }

        // The number of a set; NONE if there is no room for one more.
        private int meetSet(long set) {
            int slot = (int) ((set * 0x9E3779B97F4A7C15L) >>> 54);
            for (int i = 0; i < SLOTS; i++) {
                int number = slots[slot];
                if (number == NONE) {
                    return addSet(slot, set);
                }
                if (sets[number] == set) {
                    return number;
                }
                slot = slot + 1 & SLOTS - 1;
            }
            return NONE;
        }

        private int addSet(int slot, long set) {
            if (setCount >= MOST_SETS) {
                return NONE;
            }
            sets[setCount] = set;
            slots[slot] = setCount;
            setCount++;
            return setCount - 1;
        }
    }

    /** Reckons least numbers for which rows differ or a question holds, and how many there are. */
    private static final class Reckoner {
        private static final int PAIRS = ROW_STATES * ROW_STATES;
        private static final int MOST_DIGITS = 64;
        // A number with more digits than this above another can be made shorter and is still above it.
        private static final int MOST_LENGTH = MOST_DIGITS + LEAST_STATES + 1;

        private final int[] queue = new int[PAIRS];
        private final int[] seen = new int[PAIRS];
        private final long[] numbers = new long[PAIRS];
        private final long[] open = new long[MOST_LENGTH + 1];
        private final int[] digits = new int[MOST_DIGITS];
        private final int[] heads = new int[MOST_DIGITS + 1];
        private final long[] ends = new long[LEAST_STATES];
        private final long[] ways = new long[LEAST_STATES];
        private final long[] fresh = new long[LEAST_STATES];

        /** Goes through the pairs of states in the order of the least numbers that lead to them. */
        long leastUnlike(Least a, Least b, int base) {
            int wide = b.states;
            Arrays.fill(seen, 0);
            queue[0] = 0;
            numbers[0] = 0;
            seen[0] = 1;
            int met = 1;
            for (int i = 0; i < met && i < PAIRS && wide > 0; i++) {
                int left = queue[i] / wide;
                int right = queue[i] % wide;
                if (a.mark(left) != b.mark(right)) {
                    return numbers[i] > TOP ? TOO_HIGH : numbers[i];
                }
                for (int digit = 0; digit < base; digit++) {
                    int to = a.after(left, digit) * wide + b.after(right, digit);
                    if (within(to, PAIRS) && seen[to] == 0) {
                        seen[to] = 1;
                        queue[met] = to;
                        numbers[met] = longer(numbers[i], digit, base);
                        met++;
                    }
                }
            }
            return NONE;
        }

        private static long longer(long number, int digit, int base) {
            if (base < 1 || number > (TOP - digit) / base) {
                return OVER;
            }
            return number * base + digit;
        }

        private static long sum(long a, long b) {
            return a > OVER - b ? OVER : a + b;
        }

        private static long times(long a, long b) {
            if (a == 0 || b == 0) {
                return 0;
            }
            return a > OVER / b ? OVER : a * b;
        }

        long leastAbove(Least least, long above, int base) {
            fillOpen(least, base);
            int length = fillDigits(above + 1, base);
            fillHeads(least, length);
            if (least.mark(heads[length]) == 1) {
                return above + 1 > TOP ? TOO_HIGH : above + 1;
            }
            for (int i = length - 1; i >= 0; i--) {
                int digit = openDigit(least, heads[i], digits[i] + 1, length - 1 - i, base);
                if (digit != NONE) {
                    return ended(least, head(i, base), heads[i], digit, length - i, base);
                }
            }
            for (int more = length + 1; more <= length + least.states; more++) {
                int digit = openDigit(least, 0, 1, more - 1, base);
                if (digit != NONE) {
                    return ended(least, 0, 0, digit, more, base);
                }
            }
            return NONE;
        }

        // open[r]: the states from which r digits lead to one that takes.
        private void fillOpen(Least least, int base) {
            open[0] = 0;
            for (int i = 0; i < least.states; i++) {
                open[0] |= (long) least.mark(i) << i;
            }
            for (int rest = 1; rest < open.length; rest++) {
                open[rest] = 0;
                for (int i = 0; i < least.states; i++) {
                    if (openDigit(least, i, 0, rest - 1, base) != NONE) {
                        open[rest] |= 1L << i;
                    }
                }
            }
        }

        // The least digit, from a told one on, behind which so many more lead to a state that takes.
        private int openDigit(Least least, int state, int from, int rest, int base) {
            for (int digit = from; digit < base && within(rest, open.length); digit++) {
                if ((open[rest] >> least.after(state, digit) & 1) != 0) {
                    return digit;
                }
            }
            return NONE;
        }

        private int fillDigits(long number, int base) {
            int length = 0;
            long rest = number;
            for (int i = 0; i < MOST_DIGITS && rest > 0 && base > 1; i++) {
                rest /= base;
                length++;
            }
            rest = number;
            for (int i = length - 1; i >= 0 && base > 1; i--) {
                digits[i] = (int) (rest % base);
                rest /= base;
            }
            return length;
        }

        private void fillHeads(Least least, int length) {
            heads[0] = 0;
            for (int i = 0; i < length && i < MOST_DIGITS; i++) {
                heads[i + 1] = least.after(heads[i], digits[i]);
            }
        }

        private long head(int length, int base) {
            long head = 0;
            for (int i = 0; i < length && i < MOST_DIGITS; i++) {
                head = longer(head, digits[i], base);
            }
            return head;
        }

        // The least number of a head, a digit, and what else makes up so many digits behind the head.
        private long ended(Least least, long head, int state, int digit, int many, int base) {
            long number = longer(head, digit, base);
            int now = least.after(state, digit);
            for (int rest = many - 2; rest >= 0; rest--) {
                int next = Math.max(0, openDigit(least, now, 0, rest, base));
                number = longer(number, next, base);
                now = least.after(now, next);
            }
            return number > TOP ? TOO_HIGH : number;
        }

        long howMany(Least least, int base) {
            for (int i = 0; i < ends.length; i++) {
                ends[i] = least.mark(i);
            }
            return countAll(least, 1, base);
        }

        /** The first name's numbers: those as long as the second one's at most, then the longer ones. */
        long howManyFirst(Least least, long second, int base) {
            for (int i = 0; i < ends.length; i++) {
                ends[i] = least.mark(i);
            }
            int length = fillDigits(second, base);
            for (int i = length - 1; i >= 0; i--) {
                for (int from = 0; from < least.states; from++) {
                    fresh[from] = 0;
                    for (int digit = 0; digit < base; digit++) {
                        fresh[from] = sum(fresh[from], ends[least.after(from, digit * base + digits[i])]);
                    }
                }
                System.arraycopy(fresh, 0, ends, 0, least.states);
            }
            return countAll(least, base, base);
        }

        // Each state tells how many ends it has; the digits ahead of them stand in rows of digits this far apart.
        private long countAll(Least least, int apart, int base) {
            long total = ends[0];
            startWays(least, apart, base);
            for (int length = 1; length <= 2 * LEAST_STATES; length++) {
                for (int i = 0; i < least.states; i++) {
                    long more = times(ways[i], ends[i]);
                    if (more > 0 && length > LEAST_STATES) {
                        return NONE;
                    }
                    total = sum(total, more);
                }
                stepWays(least, apart, base);
            }
            return total > TOP ? TOO_HIGH : total;
        }

        private void startWays(Least least, int apart, int base) {
            Arrays.fill(ways, 0);
            for (int digit = 1; digit < base; digit++) {
                int to = least.after(0, digit * apart);
                ways[to] = sum(ways[to], 1);
            }
        }

        private void stepWays(Least least, int apart, int base) {
            Arrays.fill(fresh, 0);
            for (int i = 0; i < least.states; i++) {
                for (int digit = 0; digit < base; digit++) {
                    int to = least.after(i, digit * apart);
                    fresh[to] = sum(fresh[to], ways[i]);
                }
            }
            System.arraycopy(fresh, 0, ways, 0, ways.length);
        }
    }

    /**
     * What the rows of each kind do when they act, and the bodies that ran. One method stands for an act: the body of
     * another kind always runs around the MACHINE's.
     */
    private static final class Acts {
        private static final int KEPT = 50;

        private final int[] trace = new int[KEPT];
        private int kept = 0;
        private int kind = MACHINE;
        private int number = 0;
        private int wide = 0;

        int run(int kind, int number, int wide, int act, int x) {
            this.kind = kind;
            this.number = number;
            this.wide = wide;
            kept = 0;
            switch (act) {
                case 0: return reading(x);
                case 1: return stepping(x);
                case 2: return joining(x);
                default: return telling(x);
            }
        }

        private void ran(int body) {
            if (kept < KEPT) {
                trace[kept] = body;
                kept++;
            }
        }

        private boolean isGrown() {
            return kind == GROWN || kind == RING;
        }

        private int reading(int x) {
            if (isGrown()) {
                ran(20);
            }
            ran(10);
            int read = x + number;
            return isGrown() ? read * 2 : read;
        }

        private int stepping(int x) {
            int at = x;
            if (kind == RING) {
                ran(30);
            }
            if (kind == SOUGHT) {
                ran(50);
                at = x - 1;
            }
            ran(11);
            int stepped = reading(at) * 3;
            return kind == RING ? stepped + 5 : stepped;
        }

        private int joining(int x) {
            if (kind == RING) {
                ran(31);
            }
            if (kind == PAIR) {
                ran(40);
            }
            ran(12);
            int joined = x ^ wide;
            if (kind == RING) {
                return joined - x;
            }
            return kind == PAIR ? joined * number : joined;
        }

        private int telling(int x) {
            int at = x;
            int ahead = 0;
            if (isGrown()) {
                ran(21);
                at = x + 1;
            }
            if (kind == SOUGHT) {
                ran(51);
                ahead = joining(x);
            }
            ran(13);
            int stepped = stepping(at);
            return ahead ^ stepped - joining(at);
        }
    }
}
