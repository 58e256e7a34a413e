import java.util.Arrays;
import java.util.NoSuchElementException;

public final class FollowingRefs {
    public static final int NONE = -1;

    private static final int MOST_TAPE = 940;
    private static final int MOST_SCHEMA = 900;
    private static final int MOST_BOOK = 400;
    private static final int MOST_STATEMENT = 200;
    private static final int MOST_SENTENCE = 200;
    private static final int FED = 20;

    private static final int MOST_LETTERS = 7;
    private static final int MOST_DIGITS = 3;
    private static final int MOST_TABLES = 4;
    private static final int MOST_COLS = 4;
    private static final int MOST_EACH = 6;
    private static final int MOST_ROWS = 40;
    private static final int MOST_MADE = 99;
    private static final int MOST_LINES = 40;
    private static final int MOST_CONDS = 4;
    private static final int MOST_ONES = 20;
    private static final int MOST_WITHIN = 8;
    private static final int MOST_DRAWS = 40;
    private static final int MOST_UNDOS = 8;
    private static final int MOST_VALUE = 99;
    private static final int IMAGES = 2;

    // Kinds of TOKENS: a sign that may come has its byte as its kind, a told WORD has FIRST_WORD and its place in WORDS.
    private static final int END = 0;
    private static final int CUT = 1;
    private static final int STRANGE = 2;
    private static final int NUMBER = 3;
    private static final int NAME = 4;
    private static final int FIRST_WORD = 128;
    private static final int TABLE = 128;
    private static final int KEY = 129;
    private static final int REF = 130;
    private static final int TO = 131;
    private static final int REFUSE = 132;
    private static final int RESET = 135;
    private static final int FULL = 136;
    private static final int LATE = 137;
    private static final int DEFAULT = 138;
    private static final int NEED = 139;
    private static final int CHECK = 140;
    private static final int INSERT = 141;
    private static final int DELETE = 142;
    private static final int IF = 143;
    private static final int AND = 144;
    private static final int SET = 145;
    private static final int BEGIN = 146;
    private static final int COMMIT = 147;
    private static final int BACK = 148;
    private static final int NOTHING = 149;
    private static final int OR = 150;
    private static final int NOT = 151;
    private static final int BARE = 152;
    private static final int KNOWN = 153;
    private static final int BROKEN = 154;
    private static final int IN = 155;
    private static final int ROW = 156;
    private static final String WORDS = "table key ref to refuse follow clear reset full late default need check insert delete if and set begin commit back none or not bare known broken in row ";

    // What a deletion or a change does to those that refer, as numbered by the SCHEMA.
    private static final int ON_FOLLOW = 1;
    private static final int ON_CLEAR = 2;
    private static final int ON_RESET = 3;

    // Parts of a KEY.
    private static final int KEY_TABLE = 0;
    private static final int KEY_COL = 1;
    private static final int KEY_SECOND = 2;
    private static final int KEY_PARTS = 3;

    // Parts of a REF; the first seven are those that ref(f, what) tells.
    private static final int REF_TABLE = 0;
    private static final int REF_OTHER = 1;
    private static final int REF_KEY = 2;
    private static final int REF_GONE = 3;
    private static final int REF_CHANGED = 4;
    private static final int REF_FULL = 5;
    private static final int REF_LATE = 6;
    private static final int REF_COL = 7;
    private static final int REF_SECOND = 8;
    private static final int REF_PARTS = 9;

    // Parts of a CHECK.
    private static final int CHECK_TABLE = 0;
    private static final int CHECK_COL = 1;
    private static final int CHECK_SIGN = 2;
    private static final int CHECK_OTHER = 3;
    private static final int CHECK_NUMBER = 4;
    private static final int CHECK_LATE = 5;
    private static final int CHECK_PARTS = 6;

    // Parts of a LINE of a BOOK. GIVEN: the VALUES to insert, or the first COL to set, its VALUE, the second, its VALUE.
    private static final int LINE_KIND = 0;
    private static final int LINE_TABLE = 1;
    private static final int LINE_CONDS = 2;
    private static final int LINE_GIVEN = 3;
    private static final int LINE_COND = 7;
    private static final int COND_PARTS = 3;
    private static final int LINE_PARTS = 19;

    // VIOLATIONS, and why a STATEMENT is refused.
    private static final int BY_NEED = 1;
    private static final int BY_KEY = 2;
    private static final int BY_REF = 3;
    private static final int BY_CHECK = 4;
    private static final int BY_TWO_VALUES = 5;
    private static final int BY_NO_ROOM = 6;
    private static final int MOST_VIOLATIONS = MOST_ROWS * (MOST_COLS + 3 * MOST_EACH);

    // Why a LINE of a BOOK is WRONG, beside a STATEMENT's reasons.
    private static final int WRONG_BEGIN = 11;
    private static final int WRONG_COMMIT = 21;
    private static final int WRONG_VIOLATED = 22;
    private static final int WRONG_BACK = 31;

    private static final int NOT_READ = -2;
    private static final int REFUSED = -1000;
    private static final int MOST_TAG = 24;

    private final Text tape = new Text();
    private final Schema plan = new Schema();
    private final State state = new State();
    private final Sentence sentenceNow = new Sentence();
    private final SchemaReader schemaReader = new SchemaReader(tape);
    private final SentenceReader sentenceReader = new SentenceReader(tape, plan);
    private final Lines lines = new Lines(tape, plan);
    // Two judges: what books and draws are judged to be must not change what the latest statement() left to be asked.
    private final Judge latest = new Judge(plan, state);
    private final Judge aside = new Judge(plan, state);
    private final State earlier = new State();
    private final State[] undos = new State[MOST_UNDOS];
    private int undoable;
    private final Image[] images = new Image[IMAGES];
    private final int[] bookTold = new int[4];
    private final byte[] tagBytes = new byte[MOST_TAG];
    private int tagLength;
    private int orderLength;
    private int orderPacked;
    private int dice;

    public FollowingRefs() {
        for (int i = 0; i < undos.length; i++) {
            undos[i] = new State();
        }
        for (int i = 0; i < images.length; i++) {
            images[i] = new Image();
        }
        Arrays.fill(bookTold, NONE);
    }

    public int feed(int a, int b, int c, int d, int e) {
        if (tape.length + FED > MOST_TAPE) {
            return NONE;
        }
        tape.append(a);
        tape.append(b);
        tape.append(c);
        tape.append(d);
        tape.append(e);
        return tape.length;
    }

    public boolean end(int n) {
        if (n < 0 || n > tape.length) {
            return false;
        }
        tape.length = n;
        return true;
    }

    public int schema() {
        boolean read = schemaReader.readSchema();
        tape.length = 0;
        if (!read) {
            return -1 - tape.faultPlace;
        }
        plan.copyFrom(schemaReader.draft);
        state.reset();
        sentenceNow.reset();
        undoable = 0;
        return schemaReader.lineCount;
    }

    public int fault() {
        return tape.faultKind;
    }

    public int statement() {
        return decide(true);
    }

    public int would() {
        return decide(false);
    }

    private int decide(boolean lives) {
        boolean read = lines.readStatement();
        tape.length = 0;
        if (!read) {
            return NOT_READ - tape.faultPlace;
        }
        int why = latest.judge(lines, 0);
        if (why != 0) {
            return REFUSED - why;
        }
        if (lives) {
            keepForUndo(state);
            state.current.copyFrom(latest.then);
        }
        return latest.touched;
    }

    public int judged(int what) {
        if (!latest.any) {
            return NONE;
        }
        switch (what) {
            case 0:
                return latest.why;
            case 1:
                return latest.found;
            case 2:
                return latest.going;
            case 3:
                return latest.changed;
            default:
                return NONE;
        }
    }

    public int goes(int k) {
        return k >= 0 && k < latest.going ? at(latest.goers, k) : NONE;
    }

    public int steps(int row) {
        for (int i = 0; i < latest.going; i++) {
            if (at(latest.goers, i) == row) {
                return at(latest.goerSteps, i);
            }
        }
        return NONE;
    }

    public int violated(int k, int what) {
        return latest.violations.tell(k, what);
    }

    public int begin() {
        if (state.on) {
            return 1;
        }
        keepForUndo(state);
        state.start();
        return 0;
    }

    public int commit() {
        latest.violations.reset();
        if (!state.on) {
            return 1;
        }
        if (latest.violations.scan(plan, state.current, true) > 0) {
            return 2;
        }
        keepForUndo(state);
        state.on = false;
        return 0;
    }

    public int back() {
        if (!state.on) {
            return 1;
        }
        keepForUndo(state);
        state.goBack();
        return 0;
    }

    public int undo() {
        if (undoable < 1 || undoable > undos.length) {
            return NONE;
        }
        State kept = undos[undoable - 1];
        if (kept == null) {
            return NONE;
        }
        undoable--;
        state.copyFrom(kept);
        return undoable;
    }

    private void keepForUndo(State ahead) {
        if (undoable >= undos.length) {
            forgetOldest();
        }
        State place = undoable >= 0 && undoable < undos.length ? undos[undoable] : null;
        if (place != null) {
            place.copyFrom(ahead);
            undoable++;
        }
    }

    // The oldest is moved behind the others, to be written over: no State is made by a call.
    private void forgetOldest() {
        for (int i = 1; i < undos.length; i++) {
            State older = undos[i - 1];
            undos[i - 1] = undos[i];
            undos[i] = older;
        }
        undoable = undos.length - 1;
    }

    public int now(int what) {
        switch (what) {
            case 0:
                return state.current.n;
            case 1:
                return state.current.made;
            case 2:
                return state.on ? 1 : 0;
            case 3:
                return aside.violations.scan(plan, state.current, true);
            default:
                return NONE;
        }
    }

    public int rows(int t) {
        return t < 0 || t >= plan.tables ? NONE : state.current.countOf(t);
    }

    public int row(int t, int k) {
        return t < 0 || t >= plan.tables || k < 0 ? NONE : state.current.numberOf(t, k);
    }

    public int tableOf(int row) {
        return state.current.tableAt(state.current.slotOf(row));
    }

    public int cell(int row, int c) throws NoSuchElementException {
        int slot = state.current.slotOf(row);
        if (slot == NONE || c < 0 || c >= plan.width(state.current.tableAt(slot))) {
            throw new NoSuchElementException();
        }
        return state.current.value(slot, c);
    }

    public int refers(int row, int ref) {
        int slot = state.current.slotOf(row);
        if (slot == NONE || ref < 0 || ref >= plan.refs) {
            return NONE;
        }
        return state.current.numberAt(state.current.aim(plan, slot, ref));
    }

    public int referred(int row) {
        int slot = state.current.slotOf(row);
        return slot == NONE ? NONE : state.current.referring(plan, slot);
    }

    public int table(int t, int what) {
        if (t < 0 || t >= plan.tables) {
            return NONE;
        }
        switch (what) {
            case 0:
                return plan.width(t);
            case 1:
                return plan.keysOf(t);
            case 2:
                return plan.refsBy(REF_TABLE, t);
            case 3:
                return plan.refsBy(REF_OTHER, t);
            case 4:
                return plan.perils(t);
            default:
                return NONE;
        }
    }

    public int col(int t, int c, int what) throws NoSuchElementException {
        if (!plan.has(t, c) || what < 0 || what > 3) {
            throw new NoSuchElementException();
        }
        switch (what) {
            case 0:
                return plan.defaultOf(t, c);
            case 1:
                return plan.needed(t, c) ? 1 : 0;
            case 2:
                return plan.keysWith(t, c);
            default:
                return plan.refsWith(t, c);
        }
    }

    public int ref(int f, int what) {
        return f < 0 || f >= plan.refs || what < 0 || what > REF_LATE ? NONE : plan.refPart(f, what);
    }

    public int order() {
        int packed = plan.packedOrder();
        if (packed == NONE) {
            return NONE;
        }
        orderPacked = packed;
        orderLength = plan.tables;
        return orderLength;
    }

    public int orderAt(int k) {
        return k < 0 || k >= orderLength ? NONE : (orderPacked >>> (4 * k)) & 15;
    }

    public int mean(int t, int c, int what) throws NoSuchElementException {
        int count = plan.has(t, c) ? state.current.countIn(t, c) : 0;
        if (count == 0 || what < 0 || what > 1) {
            throw new NoSuchElementException();
        }
        int sum = state.current.sumIn(t, c);
        int shared = commonDivisor(sum, count);
        int told = what == 0 ? sum : count;
        return shared < 1 ? told : told / shared;
    }

    public int tag(int row) {
        int slot = state.current.slotOf(row);
        if (slot == NONE) {
            return NONE;
        }
        int t = state.current.tableAt(slot);
        tagLength = 0;
        writeWord(plan.name(t));
        writeByte(' ');
        writeNumber(row);
        for (int c = 0; c < plan.width(t); c++) {
            writeByte(' ');
            writeNumber(state.current.value(slot, c));
        }
        return tagLength;
    }

    private void writeByte(int b) {
        if (tagLength >= 0 && tagLength < tagBytes.length) {
            tagBytes[tagLength] = (byte) b;
            tagLength++;
        }
    }

    private void writeNumber(int v) {
        if (v < 0) {
            writeByte('-');
            return;
        }
        if (v > 9) {
            writeByte('0' + v / 10);
        }
        writeByte('0' + v % 10);
    }

    private void writeWord(long word) {
        for (int shift = 30; shift >= 0; shift -= 5) {
            int letter = (int) (word >>> shift) & 31;
            if (letter != 0) {
                writeByte('a' - 1 + letter);
            }
        }
    }

    public int byteAt(int i) {
        return i >= 0 && i < tagLength && i < tagBytes.length ? tagBytes[i] & 255 : NONE;
    }

    public int drawn(int n, int seed) {
        if (n < 1 || n > MOST_DRAWS) {
            return NONE;
        }
        if (plan.tables == 0) {
            return 0;
        }
        earlier.copyFrom(state);
        dice = seed;
        int done = 0;
        for (int i = 0; i < n; i++) {
            drawLine();
            int why = runLine(0);
            if (why == WRONG_VIOLATED) {
                lines.setPart(0, LINE_KIND, BACK);
                why = runLine(0);
            }
            if (why == 0) {
                done++;
            }
        }
        if (done > 0) {
            keepForUndo(earlier);
        }
        return done;
    }

    private void drawLine() {
        int act = draw(6);
        int t = draw(plan.tables);
        int width = plan.width(t);
        int kind = act < 3 ? INSERT : act == 3 ? DELETE : act == 4 ? SET : state.on ? COMMIT : BEGIN;
        lines.startLine(0, kind, t);
        if (kind == INSERT) {
            for (int c = 0; c < width; c++) {
                int value = draw(5);
                lines.setPart(0, LINE_GIVEN + c, value == 4 ? NONE : value);
            }
        } else if (kind == DELETE || kind == SET) {
            int c = draw(width);
            lines.addCond(0, c, '=', draw(4));
            lines.setPart(0, LINE_GIVEN, c);
            lines.setPart(0, LINE_GIVEN + 1, kind == SET ? draw(4) : NONE);
        }
    }

    private int draw(int n) {
        dice = dice * 1103515245 + 12345;
        return n < 1 ? 0 : (dice >>> 8) % n;
    }

    public int book(int lives) {
        if (lives != 0 && lives != 1) {
            return REFUSED;
        }
        boolean read = lines.readBook();
        tape.length = 0;
        if (!read) {
            return NOT_READ - tape.faultPlace;
        }
        earlier.copyFrom(state);
        int why = 0;
        int ahead = 0;
        for (int i = 0; i < lines.count && why == 0; i++) {
            why = runLine(i);
            if (why == 0) {
                ahead++;
            }
        }
        put(bookTold, 0, why);
        put(bookTold, 1, ahead);
        put(bookTold, 2, state.current.n);
        put(bookTold, 3, aside.violations.scan(plan, state.current, true));
        if (lives == 0) {
            state.copyFrom(earlier);
        } else if (ahead > 0) {
            keepForUndo(earlier);
        }
        return why == 0 ? NONE : ahead;
    }

    private int runLine(int i) {
        switch (lines.part(i, LINE_KIND)) {
            case BEGIN:
                return state.start() ? 0 : WRONG_BEGIN;
            case COMMIT:
                if (!state.on) {
                    return WRONG_COMMIT;
                }
                if (aside.violations.scan(plan, state.current, true) > 0) {
                    return WRONG_VIOLATED;
                }
                state.on = false;
                return 0;
            case BACK:
                return state.goBack() ? 0 : WRONG_BACK;
            default:
                int why = aside.judge(lines, i);
                if (why == 0) {
                    state.current.copyFrom(aside.then);
                }
                return why;
        }
    }

    public int told(int what) {
        return at(bookTold, what);
    }

    public int sentence() {
        boolean read = sentenceReader.readSentence();
        tape.length = 0;
        if (!read) {
            return -1 - tape.faultPlace;
        }
        sentenceNow.copyFrom(sentenceReader.draft);
        return sentenceNow.ones;
    }

    public int said(int k) {
        if (!sentenceNow.there || k < NONE) {
            return NONE;
        }
        aside.violations.scan(plan, state.current, true);
        int count = 0;
        for (int slot = 0; slot < state.current.n; slot++) {
            if (sentenceNow.holds(plan, state.current, slot, aside.violations)) {
                if (count == k) {
                    return state.current.numberAt(slot);
                }
                count++;
            }
        }
        return k == NONE ? count : NONE;
    }

    public boolean image(int k) {
        Image place = imageIn(k);
        if (place == null) {
            return false;
        }
        place.kept = true;
        place.plan.copyFrom(plan);
        place.state.copyFrom(state);
        place.sentence.copyFrom(sentenceNow);
        return true;
    }

    public boolean restore(int k) {
        Image place = imageIn(k);
        if (place == null || !place.kept) {
            return false;
        }
        plan.copyFrom(place.plan);
        state.copyFrom(place.state);
        sentenceNow.copyFrom(place.sentence);
        undoable = 0;
        return true;
    }

    private Image imageIn(int k) {
        return k >= 0 && k < images.length ? images[k] : null;
    }

    public int count(int what) {
        switch (what) {
            case 0:
                return plan.tables;
            case 1:
                return plan.keys;
            case 2:
                return plan.refs;
            case 3:
                return plan.checks;
            case 4:
                return tape.length;
            default:
                return NONE;
        }
    }

    // Numbers are read and written here alone where an index is not just looked at: so none can leave its array.
    private static int at(int[] numbers, int i) {
        return i >= 0 && i < numbers.length ? numbers[i] : NONE;
    }

    private static void put(int[] numbers, int i, int v) {
        if (i >= 0 && i < numbers.length) {
            numbers[i] = v;
        }
    }

    private static void copy(int[] from, int[] to) {
        System.arraycopy(from, 0, to, 0, Math.min(from.length, to.length));
    }

    private static void copyWords(long[] from, long[] to) {
        System.arraycopy(from, 0, to, 0, Math.min(from.length, to.length));
    }

    private static boolean compares(int a, int sign, int b) {
        return sign == '<' ? a < b : sign == '>' ? a > b : a == b;
    }

    private static int commonDivisor(int a, int b) {
        int big = a;
        int small = b;
        for (int i = 0; i < 64 && small != 0; i++) {
            int rest = big % small;
            big = small;
            small = rest;
        }
        return big;
    }

    /** The tape, and the TOKENS that are read along it, one at a time. */
    private static final class Text {
        final byte[] bytes = new byte[MOST_TAPE];
        int length;
        // All TOKENS are told apart ahead of the reading, each in one number: its kind, its place, what it holds.
        final long[] tokens = new long[MOST_SCHEMA + 1];
        int tokenCount;
        int next;
        int kind;
        int place;
        long held;
        int faultKind;
        int faultPlace;

        void append(int v) {
            for (int shift = 24; shift >= 0; shift -= 8) {
                if (length >= 0 && length < bytes.length) {
                    bytes[length] = (byte) (v >>> shift);
                    length++;
                }
            }
        }

        void start(int most) {
            faultKind = 0;
            faultPlace = 0;
            tokenCount = 0;
            int edge = Math.min(length, most);
            int from = 0;
            for (int i = 0; i < MOST_TAPE && from < edge; i++) {
                int b = byteIn(from);
                if (isLetter(b) || isDigit(b)) {
                    from = keepRun(from);
                } else {
                    if (!isBlank(b)) {
                        keep(isSign(b) ? b : STRANGE, from, 0);
                    }
                    from++;
                }
            }
            keep(length > most ? CUT : END, edge, 0);
            next = 0;
            step();
        }

        // A run may go on behind the most bytes told, as long as it begins ahead of them.
        int keepRun(int from) {
            int letters = 0;
            int digits = 0;
            long word = 0;
            int number = 0;
            int i = from;
            while (i < length && (isLetter(byteIn(i)) || isDigit(byteIn(i)))) {
                int b = byteIn(i);
                if (isLetter(b)) {
                    letters++;
                    word = word * 32 + (b - 'a' + 1);
                } else {
                    digits++;
                    number = number * 10 + (b - '0');
                }
                i++;
            }
            if (digits == 0 && letters <= MOST_LETTERS) {
                keep(kindOfWord(word), from, word);
            } else if (letters == 0 && digits <= MOST_DIGITS) {
                keep(NUMBER, from, number);
            } else {
                keep(STRANGE, from, 0);
            }
            return i;
        }

        void keep(int sort, int at, long what) {
            if (tokenCount >= 0 && tokenCount < tokens.length) {
                tokens[tokenCount] = what << 20 | at << 8 | sort;
                tokenCount++;
            }
        }

        // The last TOKEN, the end, stays.
        void step() {
            if (next >= 0 && next < tokenCount && next < tokens.length) {
                long token = tokens[next];
                kind = (int) (token & 255);
                place = (int) (token >>> 8 & 1023);
                held = token >>> 20;
                next++;
            }
        }

        int byteIn(int i) {
            return i >= 0 && i < bytes.length ? bytes[i] & 255 : 0;
        }

        // A told WORD is no NAME, so it has a kind of its own.
        static int kindOfWord(long sought) {
            int index = 0;
            long told = 0;
            for (int i = 0; i < WORDS.length(); i++) {
                int b = WORDS.charAt(i);
                if (b != ' ') {
                    told = told * 32 + (b - 'a' + 1);
                } else if (told == sought) {
                    return FIRST_WORD + index;
                } else {
                    index++;
                    told = 0;
                }
            }
            return NAME;
        }

        static boolean isBlank(int b) {
            return b == 32 || b == 10;
        }

        static boolean isLetter(int b) {
            return b >= 'a' && b <= 'z';
        }

        static boolean isDigit(int b) {
            return b >= '0' && b <= '9';
        }

        static boolean isSign(int b) {
            return b == ';' || b == '<' || b == '=' || b == '>' || b == '(' || b == ')';
        }

        boolean fail(int faulty) {
            faultKind = faulty;
            faultPlace = place;
            return false;
        }

        boolean take(int due) {
            if (kind != due) {
                return fail(1);
            }
            step();
            return true;
        }

        boolean option(int maybe) {
            if (kind != maybe) {
                return false;
            }
            step();
            return true;
        }

        int takeComparison() {
            int sign = kind;
            if (sign != '<' && sign != '=' && sign != '>') {
                fail(1);
                return NONE;
            }
            step();
            return sign;
        }

        int takeNumber() {
            if (kind != NUMBER) {
                fail(1);
                return NONE;
            }
            if (held > MOST_VALUE) {
                fail(2);
                return NONE;
            }
            int v = (int) held;
            step();
            return v;
        }

        /** NONE for 'none', too: whether there was a FAULT is to be asked. */
        int takeValue() {
            if (kind == NOTHING) {
                step();
                return NONE;
            }
            return takeNumber();
        }

        int takeTable(Schema plan) {
            if (kind != NAME) {
                fail(1);
                return NONE;
            }
            int t = plan.tableNamed(held);
            if (t == NONE) {
                fail(3);
                return NONE;
            }
            step();
            return t;
        }

        /** The COL at this TOKEN, unlike another one, without a step: more may be asked of it. */
        int colHere(Schema plan, int t, int unlike) {
            if (kind != NAME) {
                fail(1);
                return NONE;
            }
            int c = plan.colNamed(t, held);
            if (c == NONE || c == unlike) {
                fail(3);
                return NONE;
            }
            return c;
        }

        int takeCol(Schema plan, int t, int unlike) {
            int c = colHere(plan, t, unlike);
            if (c != NONE) {
                step();
            }
            return c;
        }
    }

    /** TABLES, KEYS, REFS, CHECKS, defaults, needs. */
    private static final class Schema {
        int tables;
        int keys;
        int refs;
        int checks;
        final long[] names = new long[MOST_TABLES];
        final int[] widths = new int[MOST_TABLES];
        final long[] colNames = new long[MOST_TABLES * MOST_COLS];
        final int[] defaults = new int[MOST_TABLES * MOST_COLS];
        final int[] needs = new int[MOST_TABLES * MOST_COLS];
        final int[] keyParts = new int[MOST_EACH * KEY_PARTS];
        final int[] refParts = new int[MOST_EACH * REF_PARTS];
        final int[] checkParts = new int[MOST_EACH * CHECK_PARTS];

        void reset() {
            tables = 0;
            keys = 0;
            refs = 0;
            checks = 0;
            Arrays.fill(widths, 0);
            Arrays.fill(defaults, NONE);
            Arrays.fill(needs, 0);
        }

        void copyFrom(Schema other) {
            tables = other.tables;
            keys = other.keys;
            refs = other.refs;
            checks = other.checks;
            copyWords(other.names, names);
            copy(other.widths, widths);
            copyWords(other.colNames, colNames);
            copy(other.defaults, defaults);
            copy(other.needs, needs);
            copy(other.keyParts, keyParts);
            copy(other.refParts, refParts);
            copy(other.checkParts, checkParts);
        }

        void addTable(long word) {
            if (tables >= 0 && tables < names.length) {
                names[tables] = word;
                put(widths, tables, 0);
                tables++;
            }
        }

        void addCol(int t, long word) {
            int width = width(t);
            int i = t * MOST_COLS + width;
            if (i >= 0 && i < colNames.length && width < MOST_COLS) {
                colNames[i] = word;
                put(widths, t, width + 1);
            }
        }

        void addKey(int t, int c, int second) {
            int base = keys * KEY_PARTS;
            put(keyParts, base + KEY_TABLE, t);
            put(keyParts, base + KEY_COL, c);
            put(keyParts, base + KEY_SECOND, second);
            keys++;
        }

        long name(int t) {
            return t >= 0 && t < names.length ? names[t] : 0;
        }

        int width(int t) {
            return t >= 0 && t < tables && t < widths.length ? widths[t] : 0;
        }

        boolean has(int t, int c) {
            return c >= 0 && c < width(t);
        }

        int tableNamed(long word) {
            for (int t = 0; t < tables; t++) {
                if (name(t) == word) {
                    return t;
                }
            }
            return NONE;
        }

        int colNamed(int t, long word) {
            int width = t >= 0 && t < widths.length ? widths[t] : 0;
            for (int c = 0; c < width; c++) {
                int i = t * MOST_COLS + c;
                if (i >= 0 && i < colNames.length && colNames[i] == word) {
                    return c;
                }
            }
            return NONE;
        }

        int defaultOf(int t, int c) {
            return has(t, c) ? at(defaults, t * MOST_COLS + c) : NONE;
        }

        boolean needTold(int t, int c) {
            return at(needs, t * MOST_COLS + c) == 1;
        }

        boolean needed(int t, int c) {
            return needTold(t, c) || keysWith(t, c) != 0;
        }

        int keyPart(int k, int part) {
            return at(keyParts, k * KEY_PARTS + part);
        }

        int refPart(int f, int part) {
            return at(refParts, f * REF_PARTS + part);
        }

        int checkPart(int h, int part) {
            return at(checkParts, h * CHECK_PARTS + part);
        }

        int keyAlike(int t, int c, int second) {
            for (int k = 0; k < keys; k++) {
                if (keyPart(k, KEY_TABLE) == t && keyPart(k, KEY_COL) == c && keyPart(k, KEY_SECOND) == second) {
                    return k;
                }
            }
            return NONE;
        }

        int keysOf(int t) {
            int bits = 0;
            for (int k = 0; k < keys; k++) {
                if (keyPart(k, KEY_TABLE) == t) {
                    bits |= 1 << k;
                }
            }
            return bits;
        }

        int keysWith(int t, int c) {
            int bits = 0;
            for (int k = 0; k < keys; k++) {
                if (keyPart(k, KEY_TABLE) == t && (keyPart(k, KEY_COL) == c || keyPart(k, KEY_SECOND) == c)) {
                    bits |= 1 << k;
                }
            }
            return bits;
        }

        int refsWith(int t, int c) {
            int bits = 0;
            for (int f = 0; f < refs; f++) {
                if (refPart(f, REF_TABLE) == t && (refPart(f, REF_COL) == c || refPart(f, REF_SECOND) == c)) {
                    bits |= 1 << f;
                }
            }
            return bits;
        }

        int refsBy(int part, int t) {
            int bits = 0;
            for (int f = 0; f < refs; f++) {
                if (refPart(f, part) == t) {
                    bits |= 1 << f;
                }
            }
            return bits;
        }

        int perils(int t) {
            int bits = 0;
            for (int round = 0; round < MOST_TABLES; round++) {
                for (int f = 0; f < refs; f++) {
                    int other = refPart(f, REF_OTHER);
                    if (refPart(f, REF_GONE) == ON_FOLLOW && (other == t || (bits >>> other & 1) == 1)) {
                        bits |= 1 << refPart(f, REF_TABLE);
                    }
                }
            }
            return bits;
        }

        /** ORDER, four bits a place, so that a call that finds none leaves the one ahead of it. */
        int packedOrder() {
            int packed = 0;
            int placed = 0;
            for (int k = 0; k < tables; k++) {
                int chosen = NONE;
                for (int t = tables - 1; t >= 0; t--) {
                    if ((placed >>> t & 1) == 0 && (othersOf(t) & ~placed) == 0) {
                        chosen = t;
                    }
                }
                if (chosen == NONE) {
                    return NONE;
                }
                placed |= 1 << chosen;
                packed |= chosen << (4 * k);
            }
            return packed;
        }

        int othersOf(int t) {
            int bits = 0;
            for (int f = 0; f < refs; f++) {
                if (refPart(f, REF_TABLE) == t && refPart(f, REF_OTHER) != t) {
                    bits |= 1 << refPart(f, REF_OTHER);
                }
            }
            return bits;
        }
    }

    /** Reads a SCHEMA into a draft, so that the one that is so stays if there is a FAULT. */
    private static final class SchemaReader {
        final Text text;
        final Schema draft = new Schema();
        int lineCount;
        int owner;
        int first;
        int second;

        SchemaReader(Text tape) {
            text = tape;
        }

        boolean readSchema() {
            draft.reset();
            lineCount = 0;
            text.start(MOST_SCHEMA);
            while (text.kind != END && lineCount < MOST_SCHEMA) {
                int sort = text.kind;
                if (isFull(sort)) {
                    return text.fail(4);
                }
                boolean read;
                switch (sort) {
                    case TABLE:
                        read = readTable();
                        break;
                    case KEY:
                        read = readKey();
                        break;
                    case REF:
                        read = readRef();
                        break;
                    case DEFAULT:
                        read = readDefault();
                        break;
                    case NEED:
                        read = readNeed();
                        break;
                    case CHECK:
                        read = readCheck();
                        break;
                    default:
                        read = text.fail(1);
                }
                if (!read || !text.take(';')) {
                    return false;
                }
                lineCount++;
            }
            return true;
        }

        boolean isFull(int sort) {
            return sort == TABLE && draft.tables >= MOST_TABLES
                    || sort == KEY && draft.keys >= MOST_EACH
                    || sort == REF && draft.refs >= MOST_EACH
                    || sort == CHECK && draft.checks >= MOST_EACH;
        }

        boolean readTable() {
            text.step();
            if (text.kind != NAME) {
                return text.fail(1);
            }
            if (draft.tableNamed(text.held) != NONE) {
                return text.fail(3);
            }
            int t = draft.tables;
            draft.addTable(text.held);
            text.step();
            if (text.kind != NAME) {
                return text.fail(1);
            }
            for (int i = 0; i <= MOST_COLS && text.kind == NAME; i++) {
                if (draft.colNamed(t, text.held) != NONE) {
                    return text.fail(3);
                }
                if (draft.width(t) >= MOST_COLS) {
                    return text.fail(4);
                }
                draft.addCol(t, text.held);
                text.step();
            }
            return true;
        }

        /** A TABLE and one COL of it, or two that are unlike. */
        boolean takeCols() {
            owner = text.takeTable(draft);
            first = owner == NONE ? NONE : text.takeCol(draft, owner, NONE);
            second = NONE;
            if (first != NONE && text.kind == NAME) {
                second = text.takeCol(draft, owner, first);
                return second != NONE;
            }
            return first != NONE;
        }

        boolean readKey() {
            text.step();
            if (!takeCols()) {
                return false;
            }
            draft.addKey(owner, first, second);
            return true;
        }

        boolean readRef() {
            text.step();
            if (!takeCols() || !text.take(TO)) {
                return false;
            }
            int other = text.takeTable(draft);
            int key = other == NONE ? NONE : takeKey(other, second != NONE);
            int gone = key == NONE ? NONE : takeOn();
            int changed = gone == NONE ? NONE : takeOn();
            if (changed == NONE) {
                return false;
            }
            int base = draft.refs * REF_PARTS;
            put(draft.refParts, base + REF_TABLE, owner);
            put(draft.refParts, base + REF_OTHER, other);
            put(draft.refParts, base + REF_KEY, key);
            put(draft.refParts, base + REF_GONE, gone);
            put(draft.refParts, base + REF_CHANGED, changed);
            put(draft.refParts, base + REF_FULL, text.option(FULL) ? 1 : 0);
            put(draft.refParts, base + REF_LATE, text.option(LATE) ? 1 : 0);
            put(draft.refParts, base + REF_COL, first);
            put(draft.refParts, base + REF_SECOND, second);
            draft.refs++;
            return true;
        }

        /** COLS of a TABLE that are those of a KEY of it: that no KEY has them is a FAULT at the last. */
        int takeKey(int t, boolean two) {
            int c = two ? text.takeCol(draft, t, NONE) : text.colHere(draft, t, NONE);
            if (c == NONE) {
                return NONE;
            }
            int d = two ? text.colHere(draft, t, c) : NONE;
            if (two && d == NONE) {
                return NONE;
            }
            int key = draft.keyAlike(t, c, d);
            if (key == NONE) {
                text.fail(3);
                return NONE;
            }
            text.step();
            return key;
        }

        int takeOn() {
            int kind = text.kind;
            if (kind < REFUSE || kind > RESET) {
                text.fail(1);
                return NONE;
            }
            text.step();
            return kind - REFUSE;
        }

        boolean readDefault() {
            text.step();
            int t = text.takeTable(draft);
            int c = t == NONE ? NONE : text.colHere(draft, t, NONE);
            if (c == NONE) {
                return false;
            }
            if (draft.defaultOf(t, c) != NONE) {
                return text.fail(3);
            }
            text.step();
            int v = text.takeNumber();
            put(draft.defaults, t * MOST_COLS + c, v);
            return v != NONE;
        }

        boolean readNeed() {
            text.step();
            int t = text.takeTable(draft);
            int c = t == NONE ? NONE : text.colHere(draft, t, NONE);
            if (c == NONE) {
                return false;
            }
            if (draft.needTold(t, c)) {
                return text.fail(3);
            }
            text.step();
            put(draft.needs, t * MOST_COLS + c, 1);
            return true;
        }

        boolean readCheck() {
            text.step();
            int base = draft.checks * CHECK_PARTS;
            int t = text.takeTable(draft);
            int c = t == NONE ? NONE : text.takeCol(draft, t, NONE);
            int sign = c == NONE ? NONE : text.takeComparison();
            if (sign == NONE) {
                return false;
            }
            boolean byCol = text.kind == NAME;
            int than = byCol ? text.takeCol(draft, t, c) : text.takeNumber();
            if (than == NONE) {
                return false;
            }
            put(draft.checkParts, base + CHECK_TABLE, t);
            put(draft.checkParts, base + CHECK_COL, c);
            put(draft.checkParts, base + CHECK_SIGN, sign);
            put(draft.checkParts, base + CHECK_OTHER, byCol ? than : NONE);
            put(draft.checkParts, base + CHECK_NUMBER, byCol ? NONE : than);
            put(draft.checkParts, base + CHECK_LATE, text.option(LATE) ? 1 : 0);
            draft.checks++;
            return true;
        }
    }

    /** ROWS in slots, by number. */
    private static final class Rows {
        int n;
        int made;
        final int[] numbers = new int[MOST_ROWS];
        final int[] owners = new int[MOST_ROWS];
        final int[] values = new int[MOST_ROWS * MOST_COLS];

        void reset() {
            n = 0;
            made = 0;
        }

        void copyFrom(Rows other) {
            n = other.n;
            made = other.made;
            copy(other.numbers, numbers);
            copy(other.owners, owners);
            copy(other.values, values);
        }

        boolean hasRoom() {
            return n < MOST_ROWS && made < MOST_MADE;
        }

        void add(int t, Lines lines, int line) {
            put(numbers, n, made);
            put(owners, n, t);
            for (int c = 0; c < MOST_COLS; c++) {
                setValue(n, c, lines.part(line, LINE_GIVEN + c));
            }
            n++;
            made++;
        }

        /** Keeps the slots that are marked by NONE. */
        void keepOnly(int[] marks) {
            int kept = 0;
            for (int slot = 0; slot < n; slot++) {
                if (at(marks, slot) == NONE) {
                    put(numbers, kept, at(numbers, slot));
                    put(owners, kept, at(owners, slot));
                    for (int c = 0; c < MOST_COLS; c++) {
                        setValue(kept, c, value(slot, c));
                    }
                    kept++;
                }
            }
            n = kept;
        }

        int slotOf(int number) {
            for (int slot = 0; slot < n; slot++) {
                if (at(numbers, slot) == number) {
                    return slot;
                }
            }
            return NONE;
        }

        int tableAt(int slot) {
            return slot >= 0 && slot < n && slot < owners.length ? owners[slot] : NONE;
        }

        int numberAt(int slot) {
            return slot >= 0 && slot < n && slot < numbers.length ? numbers[slot] : NONE;
        }

        int value(int slot, int c) {
            int i = slot * MOST_COLS + c;
            return i >= 0 && i < values.length ? values[i] : NONE;
        }

        void setValue(int slot, int c, int v) {
            put(values, slot * MOST_COLS + c, v);
        }

        int countOf(int t) {
            int count = 0;
            for (int slot = 0; slot < n; slot++) {
                if (at(owners, slot) == t) {
                    count++;
                }
            }
            return count;
        }

        int numberOf(int t, int k) {
            int left = k;
            for (int slot = 0; slot < n; slot++) {
                if (at(owners, slot) == t) {
                    if (left == 0) {
                        return at(numbers, slot);
                    }
                    left--;
                }
            }
            return NONE;
        }

        int countIn(int t, int c) {
            int count = 0;
            for (int slot = 0; slot < n; slot++) {
                if (at(owners, slot) == t && value(slot, c) != NONE) {
                    count++;
                }
            }
            return count;
        }

        int sumIn(int t, int c) {
            int sum = 0;
            for (int slot = 0; slot < n; slot++) {
                if (at(owners, slot) == t && value(slot, c) != NONE) {
                    sum += value(slot, c);
                }
            }
            return sum;
        }

        /** The slot to which one refers by a REF. */
        int aim(Schema plan, int slot, int f) {
            if (tableAt(slot) != plan.refPart(f, REF_TABLE)) {
                return NONE;
            }
            int v = value(slot, plan.refPart(f, REF_COL));
            int second = plan.refPart(f, REF_SECOND);
            int w = second == NONE ? NONE : value(slot, second);
            if (v == NONE || second != NONE && w == NONE) {
                return NONE;
            }
            int other = plan.refPart(f, REF_OTHER);
            int key = plan.refPart(f, REF_KEY);
            int c = plan.keyPart(key, KEY_COL);
            int d = plan.keyPart(key, KEY_SECOND);
            for (int to = 0; to < n; to++) {
                if (at(owners, to) == other && value(to, c) == v && (d == NONE || value(to, d) == w)) {
                    return to;
                }
            }
            return NONE;
        }

        int referring(Schema plan, int to) {
            int count = 0;
            for (int slot = 0; slot < n; slot++) {
                for (int f = 0; f < plan.refs; f++) {
                    if (aim(plan, slot, f) == to) {
                        count++;
                    }
                }
            }
            return count;
        }
    }

    /** ROWS, and a transaction with the ROWS as when it began. */
    private static final class State {
        final Rows current = new Rows();
        final Rows begun = new Rows();
        boolean on;

        void reset() {
            current.reset();
            begun.reset();
            on = false;
        }

        void copyFrom(State other) {
            current.copyFrom(other.current);
            begun.copyFrom(other.begun);
            on = other.on;
        }

        boolean start() {
            if (on) {
                return false;
            }
            begun.copyFrom(current);
            on = true;
            return true;
        }

        // The numbers go on: what was inserted since is never inserted again.
        boolean goBack() {
            if (!on) {
                return false;
            }
            int made = current.made;
            current.copyFrom(begun);
            current.made = made;
            on = false;
            return true;
        }
    }

    /** VIOLATIONS in their order, each packed into one number. */
    private static final class Violations {
        int n;
        final int[] packed = new int[MOST_VIOLATIONS];

        void reset() {
            n = 0;
        }

        int scan(Schema plan, Rows rows, boolean lateToo) {
            n = 0;
            for (int t = 0; t < plan.tables; t++) {
                for (int c = 0; c < plan.width(t); c++) {
                    if (plan.needed(t, c)) {
                        addNeeds(rows, t, c);
                    }
                }
            }
            for (int k = 0; k < plan.keys; k++) {
                addKeys(plan, rows, k);
            }
            for (int f = 0; f < plan.refs; f++) {
                if (lateToo || plan.refPart(f, REF_LATE) == 0) {
                    addRefs(plan, rows, f);
                }
            }
            for (int h = 0; h < plan.checks; h++) {
                if (lateToo || plan.checkPart(h, CHECK_LATE) == 0) {
                    addChecks(plan, rows, h);
                }
            }
            return n;
        }

        void add(int kind, int number, int row) {
            put(packed, n, kind << 16 | number << 8 | row);
            if (n < packed.length) {
                n++;
            }
        }

        void addNeeds(Rows rows, int t, int c) {
            for (int slot = 0; slot < rows.n; slot++) {
                if (rows.tableAt(slot) == t && rows.value(slot, c) == NONE) {
                    add(BY_NEED, c, rows.numberAt(slot));
                }
            }
        }

        void addKeys(Schema plan, Rows rows, int k) {
            int t = plan.keyPart(k, KEY_TABLE);
            int c = plan.keyPart(k, KEY_COL);
            int second = plan.keyPart(k, KEY_SECOND);
            for (int slot = 0; slot < rows.n; slot++) {
                if (rows.tableAt(slot) == t && isDouble(rows, slot, c, second)) {
                    add(BY_KEY, k, rows.numberAt(slot));
                }
            }
        }

        static boolean isDouble(Rows rows, int slot, int c, int second) {
            int t = rows.tableAt(slot);
            int v = rows.value(slot, c);
            int w = second == NONE ? NONE : rows.value(slot, second);
            if (v == NONE || second != NONE && w == NONE) {
                return false;
            }
            for (int i = 0; i < slot; i++) {
                if (rows.tableAt(i) == t && rows.value(i, c) == v && (second == NONE || rows.value(i, second) == w)) {
                    return true;
                }
            }
            return false;
        }

        void addRefs(Schema plan, Rows rows, int f) {
            int t = plan.refPart(f, REF_TABLE);
            int c = plan.refPart(f, REF_COL);
            int second = plan.refPart(f, REF_SECOND);
            boolean full = plan.refPart(f, REF_FULL) == 1;
            for (int slot = 0; slot < rows.n; slot++) {
                if (rows.tableAt(slot) != t) {
                    continue;
                }
                boolean none = rows.value(slot, c) == NONE;
                boolean secondNone = second == NONE ? none : rows.value(slot, second) == NONE;
                boolean wrong = none != secondNone ? full : !none && rows.aim(plan, slot, f) == NONE;
                if (wrong) {
                    add(BY_REF, f, rows.numberAt(slot));
                }
            }
        }

        void addChecks(Schema plan, Rows rows, int h) {
            int t = plan.checkPart(h, CHECK_TABLE);
            int c = plan.checkPart(h, CHECK_COL);
            int sign = plan.checkPart(h, CHECK_SIGN);
            int other = plan.checkPart(h, CHECK_OTHER);
            for (int slot = 0; slot < rows.n; slot++) {
                int v = rows.value(slot, c);
                int w = other == NONE ? plan.checkPart(h, CHECK_NUMBER) : rows.value(slot, other);
                if (rows.tableAt(slot) == t && v != NONE && w != NONE && !compares(v, sign, w)) {
                    add(BY_CHECK, h, rows.numberAt(slot));
                }
            }
        }

        int tell(int k, int what) {
            if (k < 0 || k >= n || what < 0 || what > 2) {
                return NONE;
            }
            int one = at(packed, k);
            return what == 0 ? one >>> 16 : what == 1 ? one >>> 8 & 255 : one & 255;
        }

        boolean tellsOf(int row) {
            for (int k = 0; k < n; k++) {
                if ((at(packed, k) & 255) == row) {
                    return true;
                }
            }
            return false;
        }
    }

    /** LINES of a BOOK, or a STATEMENT as the only one. */
    private static final class Lines {
        final Text text;
        final Schema plan;
        int count;
        final int[] parts = new int[MOST_LINES * LINE_PARTS];

        Lines(Text tape, Schema schema) {
            text = tape;
            plan = schema;
        }

        int part(int line, int p) {
            return at(parts, line * LINE_PARTS + p);
        }

        void setPart(int line, int p, int v) {
            put(parts, line * LINE_PARTS + p, v);
        }

        void startLine(int line, int kind, int t) {
            setPart(line, LINE_KIND, kind);
            setPart(line, LINE_TABLE, t);
            setPart(line, LINE_CONDS, 0);
            for (int i = LINE_GIVEN; i < LINE_COND; i++) {
                setPart(line, i, NONE);
            }
        }

        void addCond(int line, int c, int sign, int v) {
            int n = part(line, LINE_CONDS);
            int p = LINE_COND + n * COND_PARTS;
            if (n >= 0 && n < MOST_CONDS) {
                setPart(line, p, c);
                setPart(line, p + 1, sign);
                setPart(line, p + 2, v);
                setPart(line, LINE_CONDS, n + 1);
            }
        }

        boolean readStatement() {
            count = 0;
            text.start(MOST_STATEMENT);
            int kind = text.kind;
            if (!startsStatement(kind)) {
                return text.fail(1);
            }
            text.step();
            return readLine(kind) && (text.kind == END || text.fail(1));
        }

        boolean readBook() {
            count = 0;
            text.start(MOST_BOOK);
            for (int i = 0; i < MOST_BOOK && text.kind != END; i++) {
                int kind = text.kind;
                if (!startsStatement(kind) && kind != BEGIN && kind != COMMIT && kind != BACK) {
                    return text.fail(1);
                }
                if (count >= MOST_LINES) {
                    return text.fail(4);
                }
                text.step();
                if (!readLine(kind) || !text.take(';')) {
                    return false;
                }
            }
            return true;
        }

        static boolean startsStatement(int kind) {
            return kind == INSERT || kind == DELETE || kind == SET;
        }

        boolean readLine(int kind) {
            int line = count;
            boolean ofTable = startsStatement(kind);
            int t = ofTable ? text.takeTable(plan) : NONE;
            if (ofTable && t == NONE) {
                return false;
            }
            startLine(line, kind, t);
            count++;
            switch (kind) {
                case INSERT:
                    return readValues(line, t);
                case DELETE:
                    return readConds(line, t);
                case SET:
                    return readSets(line, t) && readConds(line, t);
                default:
                    return true;
            }
        }

        boolean readValues(int line, int t) {
            for (int c = 0; c < plan.width(t); c++) {
                setPart(line, LINE_GIVEN + c, text.takeValue());
                if (text.faultKind != 0) {
                    return false;
                }
            }
            return true;
        }

        boolean readSets(int line, int t) {
            int first = NONE;
            for (int i = 0; i < 2 && (i == 0 || text.kind == NAME); i++) {
                int c = text.takeCol(plan, t, first);
                int v = c == NONE ? NONE : text.takeValue();
                if (text.faultKind != 0) {
                    return false;
                }
                setPart(line, LINE_GIVEN + 2 * i, c);
                setPart(line, LINE_GIVEN + 2 * i + 1, v);
                first = c;
            }
            return true;
        }

        boolean readConds(int line, int t) {
            if (!text.option(IF)) {
                return true;
            }
            for (int i = 0; i <= MOST_CONDS; i++) {
                int c = text.colHere(plan, t, NONE);
                if (c == NONE) {
                    return false;
                }
                if (i == MOST_CONDS) {
                    return text.fail(4);
                }
                text.step();
                int sign = text.takeComparison();
                int v = sign == NONE ? NONE : text.takeValue();
                if (text.faultKind != 0) {
                    return false;
                }
                addCond(line, c, sign, v);
                if (!text.option(AND)) {
                    return true;
                }
            }
            return true;
        }

        /** Whether a ROW is found by a LINE. */
        boolean finds(int line, Rows rows, int slot) {
            if (rows.tableAt(slot) != part(line, LINE_TABLE)) {
                return false;
            }
            for (int i = 0; i < part(line, LINE_CONDS) && i < MOST_CONDS; i++) {
                int p = LINE_COND + i * COND_PARTS;
                int have = rows.value(slot, part(line, p));
                int sign = part(line, p + 1);
                int due = part(line, p + 2);
                boolean so = due == NONE ? sign == '=' && have == NONE : have != NONE && compares(have, sign, due);
                if (!so) {
                    return false;
                }
            }
            return true;
        }
    }

    /** Finds what a STATEMENT would do to the ROWS, and why it would be refused; it changes none of them. */
    private static final class Judge {
        final Schema plan;
        final State state;
        final Rows then = new Rows();
        final Violations violations = new Violations();
        boolean any;
        int why;
        int found;
        int going;
        int changed;
        int touched;
        boolean moved;
        final int[] goers = new int[MOST_ROWS];
        final int[] goerSteps = new int[MOST_ROWS];
        final int[] stepsOf = new int[MOST_ROWS];
        final int[] aims = new int[MOST_ROWS * MOST_EACH];
        // A COL may be to have what it has: so that it is to have something is kept beside what.
        final int[] asked = new int[MOST_ROWS * MOST_COLS];
        final int[] wanted = new int[MOST_ROWS * MOST_COLS];

        Judge(Schema schema, State now) {
            plan = schema;
            state = now;
        }

        int judge(Lines lines, int line) {
            reset();
            if (lines.part(line, LINE_KIND) == INSERT) {
                why = insert(lines, line) ? 0 : BY_NO_ROOM;
            } else {
                findAims();
                findRows(lines, line);
                spreadGoing();
                listGoing();
                why = spreadValues() ? 0 : BY_TWO_VALUES;
                if (why == 0) {
                    build();
                }
            }
            if (why == 0 && violations.scan(plan, then, !state.on) > 0) {
                why = violations.tell(0, 0);
            }
            return why;
        }

        void reset() {
            any = true;
            why = 0;
            found = 0;
            going = 0;
            changed = 0;
            touched = 0;
            violations.reset();
            Arrays.fill(stepsOf, NONE);
            Arrays.fill(asked, 0);
        }

        boolean insert(Lines lines, int line) {
            if (!state.current.hasRoom()) {
                return false;
            }
            then.copyFrom(state.current);
            then.add(lines.part(line, LINE_TABLE), lines, line);
            touched = 1;
            return true;
        }

        void findAims() {
            for (int slot = 0; slot < state.current.n; slot++) {
                for (int f = 0; f < plan.refs; f++) {
                    put(aims, slot * MOST_EACH + f, state.current.aim(plan, slot, f));
                }
            }
        }

        void findRows(Lines lines, int line) {
            boolean deletes = lines.part(line, LINE_KIND) == DELETE;
            for (int slot = 0; slot < state.current.n; slot++) {
                if (!lines.finds(line, state.current, slot)) {
                    continue;
                }
                found++;
                if (deletes) {
                    put(stepsOf, slot, 0);
                } else {
                    wish(slot, lines.part(line, LINE_GIVEN), lines.part(line, LINE_GIVEN + 1));
                    wish(slot, lines.part(line, LINE_GIVEN + 2), lines.part(line, LINE_GIVEN + 3));
                }
            }
        }

        // By rounds of one step each, so that the first way found to a ROW is one of the fewest steps.
        void spreadGoing() {
            moved = true;
            for (int step = 1; step <= MOST_ROWS && moved; step++) {
                moved = false;
                for (int slot = 0; slot < state.current.n; slot++) {
                    if (at(stepsOf, slot) == NONE && followsGoer(slot, step - 1)) {
                        put(stepsOf, slot, step);
                        moved = true;
                    }
                }
            }
        }

        boolean followsGoer(int slot, int step) {
            for (int f = 0; f < plan.refs; f++) {
                int aim = at(aims, slot * MOST_EACH + f);
                if (aim != NONE && at(stepsOf, aim) == step && plan.refPart(f, REF_GONE) == ON_FOLLOW) {
                    return true;
                }
            }
            return false;
        }

        void listGoing() {
            for (int slot = 0; slot < state.current.n; slot++) {
                if (at(stepsOf, slot) != NONE) {
                    put(goers, going, state.current.numberAt(slot));
                    put(goerSteps, going, at(stepsOf, slot));
                    going++;
                }
            }
        }

        /** Whether no COL is to have two unlike VALUES; each round but the last asks one more COL to have something. */
        boolean spreadValues() {
            moved = true;
            for (int round = 0; round <= asked.length && moved; round++) {
                moved = false;
                for (int slot = 0; slot < state.current.n; slot++) {
                    for (int f = 0; f < plan.refs; f++) {
                        if (at(stepsOf, slot) == NONE && !adapt(slot, f)) {
                            return false;
                        }
                    }
                }
            }
            return true;
        }

        boolean adapt(int slot, int f) {
            int aim = at(aims, slot * MOST_EACH + f);
            if (aim == NONE) {
                return true;
            }
            int first = plan.refPart(f, REF_COL);
            int second = plan.refPart(f, REF_SECOND);
            int key = plan.refPart(f, REF_KEY);
            int told = plan.keyPart(key, KEY_COL);
            int toldSecond = plan.keyPart(key, KEY_SECOND);
            int on = plan.refPart(f, REF_GONE);
            if (at(stepsOf, aim) == NONE) {
                boolean moves = becomesAnother(aim, told);
                boolean secondMoves = becomesAnother(aim, toldSecond);
                if (!moves && !secondMoves) {
                    return true;
                }
                on = plan.refPart(f, REF_CHANGED);
                if (on == ON_FOLLOW) {
                    return (!moves || wish(slot, first, wantedOf(aim, told)))
                            && (!secondMoves || wish(slot, second, wantedOf(aim, toldSecond)));
                }
            }
            if (on == ON_CLEAR) {
                return wish(slot, first, NONE) && wish(slot, second, NONE);
            }
            int t = plan.refPart(f, REF_TABLE);
            return on != ON_RESET
                    || wish(slot, first, plan.defaultOf(t, first)) && wish(slot, second, plan.defaultOf(t, second));
        }

        boolean becomesAnother(int slot, int c) {
            return c != NONE && at(asked, slot * MOST_COLS + c) == 1 && wantedOf(slot, c) != state.current.value(slot, c);
        }

        int wantedOf(int slot, int c) {
            return at(wanted, slot * MOST_COLS + c);
        }

        /** That a COL, if there is one, is to have a VALUE: false, if it is to have an unlike one. */
        boolean wish(int slot, int c, int v) {
            if (c == NONE) {
                return true;
            }
            int i = slot * MOST_COLS + c;
            if (at(asked, i) == 1) {
                return at(wanted, i) == v;
            }
            put(asked, i, 1);
            put(wanted, i, v);
            moved = true;
            return true;
        }

        void build() {
            then.copyFrom(state.current);
            for (int slot = 0; slot < then.n; slot++) {
                if (at(stepsOf, slot) == NONE && changeRow(slot)) {
                    changed++;
                }
            }
            then.keepOnly(stepsOf);
            touched = going + changed;
        }

        boolean changeRow(int slot) {
            boolean other = false;
            for (int c = 0; c < MOST_COLS; c++) {
                if (becomesAnother(slot, c)) {
                    then.setValue(slot, c, wantedOf(slot, c));
                    other = true;
                }
            }
            return other;
        }
    }

    /** A SENTENCE as a run of acts on a pile of answers: each part behind those that it joins. */
    private static final class Sentence {
        boolean there;
        int ones;
        int acts;
        final int[] parts = new int[2 * MOST_ONES * 3];

        void reset() {
            there = false;
            ones = 0;
            acts = 0;
        }

        void copyFrom(Sentence other) {
            there = other.there;
            ones = other.ones;
            acts = other.acts;
            copy(other.parts, parts);
        }

        void add(int act, int what, int number) {
            put(parts, 3 * acts, act);
            put(parts, 3 * acts + 1, what);
            put(parts, 3 * acts + 2, number);
            acts++;
        }

        /** What the pile has on top is its lowest bit. */
        boolean holds(Schema plan, Rows rows, int slot, Violations violations) {
            int pile = 0;
            for (int i = 0; i < acts && i < 2 * MOST_ONES; i++) {
                int act = at(parts, 3 * i);
                if (act == NOT) {
                    pile ^= 1;
                } else if (act == AND) {
                    pile = pile >>> 1 & (pile | ~1);
                } else if (act == OR) {
                    pile = pile >>> 1 | pile & 1;
                } else {
                    pile = pile << 1 | (holdsOne(plan, rows, slot, violations, i) ? 1 : 0);
                }
            }
            return (pile & 1) == 1;
        }

        boolean holdsOne(Schema plan, Rows rows, int slot, Violations violations, int i) {
            int what = at(parts, 3 * i + 1);
            int number = at(parts, 3 * i + 2);
            int t = rows.tableAt(slot);
            switch (at(parts, 3 * i)) {
                case BARE:
                    return isBare(plan, rows, slot);
                case KNOWN:
                    return rows.referring(plan, slot) > 0;
                case BROKEN:
                    return violations.tellsOf(rows.numberAt(slot));
                case IN:
                    return t == what;
                case ROW:
                    return compares(rows.numberAt(slot), what, number);
                default:
                    int c = colOf(at(parts, 3 * i), t);
                    int v = c == NONE ? NONE : rows.value(slot, c);
                    return v != NONE && compares(v, what, number);
            }
        }

        static boolean isBare(Schema plan, Rows rows, int slot) {
            for (int c = 0; c < plan.width(rows.tableAt(slot)); c++) {
                if (rows.value(slot, c) == NONE) {
                    return true;
                }
            }
            return false;
        }

        /** The COLS of one name, three bits a TABLE: one more than its number, below zero so that no act is like it. */
        static int colsNamed(Schema plan, long word) {
            int bits = 0;
            for (int t = 0; t < plan.tables; t++) {
                bits |= (plan.colNamed(t, word) + 1) << (3 * t);
            }
            return -bits;
        }

        static int colOf(int cols, int t) {
            return t < 0 || t >= MOST_TABLES ? NONE : (-cols >>> (3 * t) & 7) - 1;
        }
    }

    /** Reads a SENTENCE into a draft, so that the one that is so stays if there is a FAULT. */
    private static final class SentenceReader {
        final Text text;
        final Schema plan;
        final Sentence draft = new Sentence();

        SentenceReader(Text tape, Schema schema) {
            text = tape;
            plan = schema;
        }

        boolean readSentence() {
            draft.reset();
            draft.there = true;
            text.start(MOST_SENTENCE);
            return readCond(1) && (text.kind == END || text.fail(1));
        }

        private boolean readCond(int within) {
            boolean read = readAll(within);
            for (int i = 0; i < MOST_SENTENCE && read && text.option(OR); i++) {
                read = readAll(within);
                draft.add(OR, 0, 0);
            }
            return read;
        }

        private boolean readAll(int within) {
            boolean read = readOne(within);
            for (int i = 0; i < MOST_SENTENCE && read && text.option(AND); i++) {
                read = readOne(within);
                draft.add(AND, 0, 0);
            }
            return read;
        }

        private boolean readOne(int within) {
            int kind = text.kind;
            if (!startsOne(kind)) {
                return text.fail(1);
            }
            int cols = kind == NAME ? Sentence.colsNamed(plan, text.held) : 0;
            if (kind == NAME && cols == 0) {
                return text.fail(3);
            }
            if (draft.ones >= MOST_ONES || within > MOST_WITHIN) {
                return text.fail(4);
            }
            draft.ones++;
            text.step();
            switch (kind) {
                case NOT:
                    if (!readOne(within + 1)) {
                        return false;
                    }
                    draft.add(NOT, 0, 0);
                    return true;
                case '(':
                    return readCond(within + 1) && text.take(')');
                case IN:
                    int t = text.takeTable(plan);
                    draft.add(IN, t, 0);
                    return t != NONE;
                case ROW:
                    return readComparison(ROW);
                case NAME:
                    return readComparison(cols);
                default:
                    draft.add(kind, 0, 0);
                    return true;
            }
        }

        static boolean startsOne(int kind) {
            return kind == NAME || kind == NOT || kind == '(' || kind == BARE || kind == KNOWN || kind == BROKEN
                    || kind == IN || kind == ROW;
        }

        boolean readComparison(int act) {
            int sign = text.takeComparison();
            int number = sign == NONE ? NONE : text.takeNumber();
            draft.add(act, sign, number);
            return number != NONE;
        }
    }

    /** SCHEMA, ROWS with their transaction, and SENTENCE as they were once. */
    private static final class Image {
        boolean kept;
        final Schema plan = new Schema();
        final State state = new State();
        final Sentence sentence = new Sentence();
    }
}
