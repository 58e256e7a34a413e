/** Terms 1: each sentence on texts that names a bound or an edge, by a test of its own that names it. */
public final class TextEdgeTest {
    static final String TWO = "table t a b c;table u x y;";
    static final String ONE = "table t a;";
    static final String PAIR = "table t a b;table u x a;";
    static final String THREE = "table t a b c;table u x;table w a b c d;";
    static final String KEYED = TWO + "key t a b;key u x;key t c;";
    static final String[] ONS = {"refuse", "follow", "clear", "reset"};
    static final String[] TOLD_WORDS = {"table", "key", "ref", "to", "refuse", "follow", "clear", "reset", "full",
        "late", "default", "need", "check", "insert", "delete", "if", "and", "set", "begin", "commit", "back", "none",
        "or", "not", "bare", "known", "broken", "in", "row"};

    static Due d;
    static FollowingRefs x;

    static void edge(String sentence) {
        d = new Due();
        d.promise = "Terms 1, " + sentence;
        x = d.x;
    }

    /** With TABLES that are told already. */
    static void edge(String sentence, String tables) {
        edge(sentence);
        d.put(tables);
        d.so("a SCHEMA: " + tables, x.schema() > 0, true);
    }

    public static void main(String[] args) {
        tokens();
        schemaAsAWhole();
        schemaAtItsMostBytes();
        names();
        tableLines();
        keyLines();
        refLines();
        refOptions();
        defaultAndNeedLines();
        checkLines();
        mostOfASort();
        bookAsAWhole();
        bookLines();
        conditions();
        statementAsAWhole();
        sentenceAsAWhole();
        sentenceParts();
        sentenceBounds();
        faultOrder();
        Due.close("TextEdgeTest");
    }

    static boolean isOfARun(int b) {
        return b >= 'a' && b <= 'z' || b >= '0' && b <= '9';
    }

    static void tokens() {
        edge("TOKENS: blanks (32, 10) between them or not");
        d.schema("\n table\nt\n\na ; check  t a<5;\n", 2);
        d.schema("table t a b;check t a<b;check t b=5 late;", 3);
        for (int b = 0; b < 256; b++) {
            if (b == 32 || b == 10) {
                d.schema("table t" + (char) b + "a;", 1);
            } else if (!isOfARun(b)) {
                edge("TOKENS: byte " + b + " is no blank");
                d.schema("table t" + (char) b + "a;", 7, 1);
            }
        }
        edge("TOKENS: WORDS: small letters, 1 to 7");
        d.schema("table a z;table abcdefg tuvwxyz;table abcdefh a;", 3);
        d.badSchema(1, "table ^abcdefgh a;");
        d.badSchema(1, "table t ^abcdefgh;");
        d.badSchema(1, "^tabletab t a;");
        d.badSchema(1, "table ^T a;");
        d.badSchema(1, "table t^T a;");
        d.badSchema(1, "table ^` a;");
        d.badSchema(1, "table ^{ a;");
        edge("TOKENS: NUMBERS: 1 to 3 digits");
        d.schema("table t a b c;default t a 0;default t b 09;default t c 099;", 4);
        d.is("col(0, 0, 0)", x.col(0, 0, 0), 0);
        d.is("col(0, 1, 0)", x.col(0, 1, 0), 9);
        d.is("col(0, 2, 0)", x.col(0, 2, 0), 99);
        d.badSchema(1, "table t a;default t a ^0000;");
        d.badSchema(1, "table t a;default t a ^1000;");
        d.badSchema(1, "table t a;default t a ^/;");
        d.badSchema(1, "table t a;default t a ^:;");
        d.badSchema(1, "table t a;default t a ^-5;");
        edge("TOKENS: ; < = > ( )");
        d.schema("table t a b c;check t a<b;check t b=c;check t c>a;", 4);
        d.sentence("(bare)", 2);
        d.badSchema(1, "table t a^.");
        d.badSentence(1, "bare^.");
        edge("TOKENS: a WORD, NUMBER goes on as long as small letters and digits do");
        d.badSchema(1, "table ^t1 a;");
        d.badSchema(1, "table ^1t a;");
        d.badSchema(1, "table t a;default t a ^5b;");
        d.badSchema(1, "table t a;need ^9t a;");
        d.badSchema(1, "^tablet a;");
        d.badSchema(3, "table t a;need ^ta;");
        d.badSchema(1, "table t a^(5;");
    }

    static void schemaAsAWhole() {
        edge("SCHEMA: { LINE ; }: there may be none");
        d.schema("", 0);
        d.schema("  \n", 0);
        edge("SCHEMA: { LINE ; }: each has its ;");
        d.badSchema(1, "table t a^");
        d.badSchema(1, "table t a;need t a^");
        d.badSchema(1, "table t a ^key t a;");
        d.badSchema(1, "^;");
        d.badSchema(1, "table t a;^;");
        edge("SCHEMA: LINES of these sorts alone");
        for (String word : TOLD_WORDS) {
            boolean starts = "table key ref default need check".contains(word) && !word.equals("in");
            if (!starts) {
                d.badSchema(1, "table t a;^" + word + " t a;");
            }
        }
        d.badSchema(1, "table t a;^t a;");
        d.badSchema(1, "^7;");
        edge("FAULTS: the end: how many bytes there are");
        for (String begun : new String[] {"table", "table t", "table t a;key", "table t a;key t", "table t a;default t a",
            "table t a;check t a", "table t a;check t a <", "table t a;need t", "table t a;ref t a", "table t a;"
                    + "ref t a to"}) {
            d.badSchema(1, begun + "^");
            d.badSchema(1, begun + "  \n ^");
        }
    }

    static void schemaAtItsMostBytes() {
        String t = "table t a;";
        edge("SCHEMA: at most 900 bytes");
        d.schema(Due.padded(t, 900), 1);
        d.schema(Due.placed(t, 891, "need t a;"), 2);
        edge("FAULTS: the most bytes told, if there are more");
        d.schema(Due.padded(t, 901), 900, 1);
        d.schema(Due.padded(t, 940), 900, 1);
        d.schema(Due.placed(t, 892, "need t a;"), 900, 1);
        d.schema(Due.placed(t, 900, "need t a;"), 900, 1);
        d.schema(Due.padded("table t a", 901), 900, 1);
        edge("FAULTS: the most bytes told, if no FAULT is ahead");
        d.schema(Due.padded("table t a;;", 940), 10, 1);
        d.schema(Due.placed(t, 899, ";    "), 899, 1);
        d.schema(Due.placed(t, 900, ";    "), 900, 1);
        d.schema(Due.placed(t, 899, ".    "), 899, 1);
        edge("FAULTS: TOKENS that begin ahead of the most bytes are read whole");
        d.schema(Due.placed(t, 897, "need t a;"), 900, 1);
        d.schema(Due.placed(t, 897, "needs t a;"), 897, 1);
        d.schema(Due.placed(t + "need", 899, "ta;"), 899, 3);
        d.schema(Due.placed(t + "need", 899, "t a;"), 900, 1);
        d.schema(Due.placed(t + "default t a", 899, "100;"), 899, 2);
        d.schema(Due.placed(t + "default t a", 899, "0000;"), 899, 1);
        d.schema(Due.placed(t + "default t a", 899, "10;"), 900, 1);
    }

    static void names() {
        for (String word : TOLD_WORDS) {
            edge("NAME, COL: none of the WORDS told: " + word);
            d.badSchema(1, "table ^" + word + " a;");
            d.badSchema(1, "table t ^" + word + ";");
            d.badSchema(1, "table t a;need ^" + word + " a;");
            d.badSchema(1, "table t a;need t ^" + word + ";");
        }
        edge("NAME, COL: a WORD that is longer than one told");
        d.schema("table tables rows;table ins nones;", 2);
        edge("a NAME is told once");
        d.badSchema(3, "table t a;table ^t b;");
        d.badSchema(3, "table t a;table u a;table v a;table ^t b;");
        edge("a COL is told once in its TABLE");
        d.badSchema(3, "table t a ^a;");
        d.badSchema(3, "table t a b c ^b;");
        d.schema("table t a;table u a;", 2);
        edge("a COL may be like a TABLE's NAME");
        d.schema("table t t u;table u t;key t t;need u t;", 4);
        d.is("col(0, 0, 2)", x.col(0, 0, 2), 1);
        d.is("col(1, 0, 1)", x.col(1, 0, 1), 1);
        edge("FAULTS: 3 a NAME, a COL not told, or of another sort");
        d.badSchema(3, "table t a;need ^u a;");
        d.badSchema(3, "table t a;need ^a a;");
        d.badSchema(3, "table t a;need t ^b;");
        d.badSchema(3, "table t a;need t ^t;");
        d.badSchema(3, "table t a;table u b;need t ^b;");
        d.badSchema(3, "need ^t a;table t a;");
        edge("numbered from 0 each");
        d.schema("table t a b;table u c e;key u e;key t b;ref t a to u e clear reset;ref u c to t b reset clear;", 6);
        d.is("count(0)", x.count(0), 2);
        d.is("table(0, 0)", x.table(0, 0), 2);
        d.is("col(1, 1, 2)", x.col(1, 1, 2), 1);
        d.is("col(0, 1, 2)", x.col(0, 1, 2), 2);
        d.is("col(0, 0, 3)", x.col(0, 0, 3), 1);
        d.is("col(1, 0, 3)", x.col(1, 0, 3), 2);
    }

    static void tableLines() {
        edge("LINE: 'table' NAME COL .. (1 to 4 of them)");
        d.schema("table t a;", 1);
        d.is("table(0, 0)", x.table(0, 0), 1);
        d.schema("table t a b c d;", 1);
        d.is("table(0, 0)", x.table(0, 0), 4);
        d.badSchema(1, "table t ^;");
        d.badSchema(1, "table ^;");
        d.badSchema(1, "table t ^5;");
        edge("FAULTS: 4 a fifth COL");
        d.badSchema(4, "table t a b c d ^e;");
        d.badSchema(4, "table t a b c d ^t;");
        d.badSchema(4, "table u a;table t a b c d ^e f g;");
        edge("FAULTS: of one TOKEN the least: a fifth COL");
        d.badSchema(3, "table t a b c d ^a;");
        d.badSchema(3, "table t a b c d ^d;");
        d.badSchema(1, "table t a b c d ^none;");
        d.badSchema(1, "table t a b c d ^5;");
        d.badSchema(1, "table t a b c d ^eightwor;");
    }

    static void keyLines() {
        edge("LINE: 'key' TABLE COL [ COL ]");
        d.schema(TWO + "key t c;key t b a;key u y;", 5);
        d.is("col(0, 0, 2)", x.col(0, 0, 2), 2);
        d.is("col(0, 2, 2)", x.col(0, 2, 2), 1);
        d.is("col(1, 1, 2)", x.col(1, 1, 2), 4);
        d.badSchema(1, TWO + "key t^;");
        d.badSchema(1, TWO + "key ^;");
        edge("LINE: one COL more than there can be: 1 at it, of a KEY");
        d.badSchema(1, TWO + "key t a b ^c;");
        d.badSchema(1, TWO + "key t a b ^a;");
        d.badSchema(1, TWO + "key t a b ^zz;");
        edge("LINE: two COLS of a LINE's TABLE are unlike, of a KEY");
        d.badSchema(3, TWO + "key t a ^a;");
        d.badSchema(3, TWO + "key t c ^c b;");
        edge("LINE: two KEYS may be of like COLS");
        d.schema("table t a b;key t a;key t a;key t a b;key t a b;key t b a;", 6);
        d.is("count(1)", x.count(1), 5);
        edge("LINE: a REF to KEYS of like COLS is to the first");
        d.schema("table t a b;key t b;key t a;key t a;key t b a;key t a b;key t a b;"
                + "ref t b to t a clear clear;ref t b a to t a b clear clear;ref t a b to t b a clear clear;", 10);
        d.is("ref(0, 2)", x.ref(0, 2), 1);
        d.is("ref(1, 2)", x.ref(1, 2), 4);
        d.is("ref(2, 2)", x.ref(2, 2), 3);
    }

    static void refLines() {
        edge("LINE: 'ref' of one COL, of two");
        d.schema(KEYED + "ref u x to t c refuse refuse;ref u y x to t a b refuse refuse;ref t b to t c clear clear;", 8);
        d.is("col(1, 0, 3)", x.col(1, 0, 3), 3);
        d.is("col(1, 1, 3)", x.col(1, 1, 3), 2);
        d.is("ref(1, 2)", x.ref(1, 2), 0);
        edge("LINE: 'ref': as many COLS as ahead");
        d.badSchema(1, KEYED + "ref u x y to t a ^refuse refuse;");
        d.badSchema(1, KEYED + "ref u x y to t ^refuse refuse;");
        d.badSchema(1, KEYED + "ref u x to t ^refuse refuse;");
        edge("LINE: one COL more than there can be: 1 at it, of a REF");
        d.badSchema(1, KEYED + "ref t a b ^c to t a b refuse refuse;");
        d.badSchema(1, KEYED + "ref u x to t c ^a refuse refuse;");
        d.badSchema(1, KEYED + "ref u x y to t a b ^c refuse refuse;");
        edge("FAULTS: 3 COLS of a 'ref' that are no KEY (at the last of them)");
        d.badSchema(3, KEYED + "ref u x to t ^a refuse refuse;");
        d.badSchema(3, KEYED + "ref u x to u ^y refuse refuse;");
        d.badSchema(3, KEYED + "ref u x y to t a ^c refuse refuse;");
        d.badSchema(3, KEYED + "ref u x y to t c ^a refuse refuse;");
        edge("LINE: 'ref': just the COLS of a KEY in that order");
        d.badSchema(3, KEYED + "ref u x y to t b ^a refuse refuse;");
        edge("LINE: 'ref': those of a KEY of that TABLE");
        d.badSchema(3, "table t a b;table u x y;key t a;ref t b to u ^x refuse refuse;");
        d.badSchema(3, "table t a b;table u a b;key t a b;ref t a b to u a ^b refuse refuse;");
        d.badSchema(3, "table t a b;ref t b to t ^a refuse refuse;key t a;");
        edge("LINE: two COLS of a LINE's TABLE are unlike, of a REF");
        d.badSchema(3, KEYED + "ref u x ^x to t a b refuse refuse;");
        d.badSchema(3, KEYED + "ref u x y to t a ^a refuse refuse;");
        edge("FAULTS: 3 a COL of a 'ref' that is not told");
        d.badSchema(3, KEYED + "ref ^v x to t c refuse refuse;");
        d.badSchema(3, KEYED + "ref u ^c to t c refuse refuse;");
        d.badSchema(3, KEYED + "ref u x ^c to t a b refuse refuse;");
        d.badSchema(3, KEYED + "ref u x to ^v c refuse refuse;");
        d.badSchema(3, KEYED + "ref u x to t ^x refuse refuse;");
        d.badSchema(3, KEYED + "ref u x y to t ^x b refuse refuse;");
        d.badSchema(3, KEYED + "ref u x y to t a ^x refuse refuse;");
        edge("LINE: 'ref': 'to' is told");
        d.badSchema(3, KEYED + "ref u x ^t c refuse refuse;");
        d.badSchema(1, KEYED + "ref u x y ^t a b refuse refuse;");
        d.badSchema(1, KEYED + "ref u ^to t c refuse refuse;");
    }

    static void refOptions() {
        String f = KEYED + "ref u x to t c ";
        edge("LINE: 'ref': ON, numbered from 0: first what a deletion does, then what a change does");
        for (int gone = 0; gone < 4; gone++) {
            for (int changed = 0; changed < 4; changed++) {
                d.schema(f + ONS[gone] + " " + ONS[changed] + ";", 6);
                d.is("ref(0, 3)", x.ref(0, 3), gone);
                d.is("ref(0, 4)", x.ref(0, 4), changed);
            }
        }
        edge("LINE: 'ref': two ONS");
        d.badSchema(1, f + "^;");
        d.badSchema(1, f + "clear ^;");
        d.badSchema(1, f + "clear reset ^follow;");
        d.badSchema(1, f + "^late refuse;");
        d.badSchema(1, f + "^to refuse;");
        d.badSchema(1, f + "clear ^full;");
        edge("LINE: 'ref': [ 'full' ] [ 'late' ]");
        String[] options = {"", " full", " late", " full late"};
        for (int i = 0; i < 4; i++) {
            d.schema(f + "clear clear" + options[i] + ";", 6);
            d.is("ref(0, 5)", x.ref(0, 5), i & 1);
            d.is("ref(0, 6)", x.ref(0, 6), i >> 1);
        }
        d.badSchema(1, f + "clear clear late ^full;");
        d.badSchema(1, f + "clear clear full ^full;");
        d.badSchema(1, f + "clear clear late ^late;");
    }

    static void defaultAndNeedLines() {
        edge("LINE: 'default' TABLE COL N (0 to 99)");
        d.schema(TWO + "default t a 0;default u y 99;", 4);
        d.is("col(0, 0, 0)", x.col(0, 0, 0), 0);
        d.is("col(1, 1, 0)", x.col(1, 1, 0), 99);
        d.is("col(0, 1, 0)", x.col(0, 1, 0), -1);
        d.badSchema(2, TWO + "default t a ^100;");
        d.badSchema(2, TWO + "default t a ^999;");
        d.badSchema(1, TWO + "default t a ^none;");
        d.badSchema(1, TWO + "default t a ^b;");
        d.badSchema(1, TWO + "default t a 5 ^6;");
        edge("LINE: 'default': each COL once; FAULTS: 3 told again (at the COL)");
        d.badSchema(3, TWO + "default t a 0;default t ^a 1;");
        d.badSchema(3, TWO + "default t a 5;default t b 6;default t ^a 100;");
        d.schema("table t a;table u a;default t a 5;default u a 6;", 4);
        edge("LINE: 'need': each once; FAULTS: 3 told again (at the COL)");
        d.badSchema(3, TWO + "need t a;need t ^a;");
        d.badSchema(3, TWO + "need t b;need t a;need t ^b;");
        d.schema("table t a;table u a;need t a;need u a;", 4);
        d.badSchema(1, TWO + "need t a ^b;");
        edge("LINE: 'need': of a KEY, too");
        d.schema("table t a b;key t a b;need t a;need t b;", 4);
        d.schema("table t a;need t a;key t a;", 3);
        edge("LINE: of defaults and needs there may be one of each COL");
        StringBuilder all = new StringBuilder();
        for (char t = 'a'; t < 'e'; t++) {
            all.append("table ").append(t).append(" a b c d;");
            for (char c = 'a'; c < 'e'; c++) {
                all.append("default ").append(t).append(' ').append(c).append(" 1;"
                        + "need ").append(t).append(' ').append(c).append(';');
            }
        }
        d.schema(all.toString(), 36);
        d.is("col(3, 3, 0)", x.col(3, 3, 0), 1);
        d.is("col(3, 3, 1)", x.col(3, 3, 1), 1);
    }

    static void checkLines() {
        edge("LINE: 'check' TABLE COL SIGN ( N | COL ) [ 'late' ]");
        d.schema(TWO + "check t a < b;check t b=0 late;check u x > 99;check u y < x late;", 6);
        d.is("count(3)", x.count(3), 4);
        edge("LINE: 'check': N: 0 to 99");
        d.badSchema(2, TWO + "check t a < ^100;");
        d.badSchema(2, TWO + "check t a < ^999 late;");
        d.badSchema(1, TWO + "check t a < ^1000;");
        edge("LINE: two COLS of a LINE's TABLE are unlike, of a CHECK");
        d.badSchema(3, TWO + "check t a < ^a;");
        edge("FAULTS: 3 a COL of a CHECK that is not told, of another sort");
        d.badSchema(3, TWO + "check ^v a < b;");
        d.badSchema(3, TWO + "check t ^x < b;");
        d.badSchema(3, TWO + "check t a < ^x;");
        d.badSchema(3, TWO + "check t a < ^t;");
        edge("LINE: 'check': a SIGN, then one N or COL");
        d.badSchema(1, TWO + "check t a ^5;");
        d.badSchema(1, TWO + "check t a ^( 5;");
        d.badSchema(1, TWO + "check t a ^;");
        d.badSchema(1, TWO + "check t a < ^;");
        d.badSchema(1, TWO + "check t a < ^none;");
        d.badSchema(1, TWO + "check t a < 5 ^6;");
        d.badSchema(1, TWO + "check t a < b ^c;");
        d.badSchema(1, TWO + "check t a < b ^full;");
        d.badSchema(1, TWO + "check t a < b late ^late;");
    }

    static void mostOfASort() {
        edge("LINE: 4 TABLES at most; FAULTS: 4 (at the LINE's first WORD)");
        String four = "table a x;table b x;table c x;table d x;";
        d.schema(four, 4);
        d.is("count(0)", x.count(0), 4);
        d.badSchema(4, four + "^table e x;");
        d.badSchema(4, four + "^table a x;");
        d.badSchema(4, four + "^table");
        edge("LINE: 6 KEYS at most");
        String six = TWO + "key t a;key t b;key t c;key u x;key u y;key t a;";
        d.schema(six, 8);
        d.is("count(1)", x.count(1), 6);
        d.badSchema(4, six + "^key t a;");
        edge("LINE: 6 REFS at most");
        String refs = TWO + "key t a;" + "ref u x to t a clear clear;".repeat(6);
        d.schema(refs, 9);
        d.is("count(2)", x.count(2), 6);
        d.is("ref(5, 1)", x.ref(5, 1), 0);
        d.badSchema(4, refs + "^ref u y to t a clear clear;");
        edge("LINE: 6 CHECKS at most");
        String checks = TWO + "check u x < 50;check t a > 3;check t a > b;".repeat(2);
        d.schema(checks, 8);
        d.is("count(3)", x.count(3), 6);
        d.badSchema(4, checks + "^check t a = b;");
        edge("LINE: as many of each sort as there may be");
        d.schema(four + "key a x;".repeat(6) + "ref a x to a x clear clear;".repeat(6) + "check a x<5;".repeat(6)
                + "need a x;default a x 1;", 24);
    }

    static void bookAsAWhole() {
        edge("BOOK: at most 400 bytes", ONE);
        d.book(0, Due.padded("begin;", 400), -1);
        d.book(0, Due.placed("begin;", 395, "back;"), -1);
        d.book(Due.padded("begin;", 401), 400, 1);
        d.book(Due.placed("begin;", 396, "back;"), 400, 1);
        d.book(Due.padded("begin", 420), 400, 1);
        d.book(Due.placed("begin;", 399, ";  "), 399, 1);
        d.book(Due.placed("begin;", 397, "backs;"), 397, 1);
        d.book(Due.placed("insert t", 399, "100;"), 399, 2);
        edge("BOOK: { LINE ; }: there may be none", ONE);
        d.book(0, "", -1);
        d.is("told(1)", x.told(1), 0);
        d.book(1, " \n", -1);
        d.badBook(1, "^;");
        d.badBook(1, "begin^");
        d.badBook(1, "begin ^back;");
        edge("BOOK: 40 LINES at most; FAULTS: 4 a 41st LINE of a BOOK (at the LINE's first WORD)", ONE);
        d.book(0, "delete t;".repeat(40), -1);
        d.is("told(1)", x.told(1), 40);
        d.badBook(4, "delete t;".repeat(40) + "^delete t;");
        d.badBook(4, "delete t;".repeat(40) + "^back;");
        d.badBook(4, "delete t;".repeat(40) + "^insert");
        edge("FAULTS: of one TOKEN the least: what begins a 41st LINE", ONE);
        d.badBook(1, "delete t;".repeat(40) + "^none");
        d.badBook(1, "delete t;".repeat(40) + "^t;");
        edge("BOOK: LINES of these sorts alone", ONE);
        for (String word : TOLD_WORDS) {
            if (!" insert delete set begin commit back ".contains(" " + word + " ")) {
                d.badBook(1, "begin;^" + word + ";");
            }
        }
        d.badBook(1, "begin;^t;");
        d.badBook(1, "^5;");
        d.badBook(1, "begin ^t;");
        d.badBook(1, "commit ^5;");
    }

    static void bookLines() {
        edge("BOOK: 'insert' TABLE VALUE .. (as many as COLS)", THREE);
        d.would("insert t 1 2 3", 1);
        d.would("insert u 1", 1);
        d.would("insert w 1 2 3 4", 1);
        d.badStatement(1, "insert t 1 2^");
        d.badStatement(1, "insert t^");
        d.badStatement(1, "insert t 1 2 3 ^4");
        d.badStatement(1, "insert u 1 ^none");
        d.badStatement(1, "insert w 1 2 3 4 ^5");
        d.badBook(1, "insert t 1 2^;");
        d.badBook(1, "insert u 1 ^2;");
        edge("BOOK: VALUE: N (0 to 99) | 'none'", THREE);
        d.would("insert t 0 99 none", 1);
        d.badStatement(2, "insert t 0 ^100 1");
        d.badStatement(2, "insert t ^999 1 1");
        d.badStatement(1, "insert t 1 ^a 1");
        d.badStatement(1, "insert t 1 ^back 1");
        d.badStatement(2, "set t a ^100");
        d.badStatement(2, "set t a 1 b ^100");
        d.badStatement(2, "delete t if a = ^100");
        d.badStatement(1, "set t a ^b");
        edge("BOOK: 'set' TABLE COL VALUE [ COL VALUE ] (two unlike COLS)", THREE);
        d.would("set t a 1", 0);
        d.would("set t c none a 99", 0);
        d.badStatement(1, "set t^");
        d.badStatement(1, "set t ^if a = 1");
        d.badStatement(1, "set t a^");
        d.badStatement(1, "set t a 1 b^");
        d.badStatement(3, "set t a 1 ^a 2");
        d.badStatement(3, "set t ^x 1");
        d.badStatement(3, "set t a 1 ^x 2");
        edge("BOOK: one COL more than there can be: 1 at it, of a 'set'", THREE);
        d.badStatement(1, "set t a 1 b 2 ^c 3");
        d.badStatement(1, "set t a 1 b 2 ^x 3");
        edge("BOOK: a TABLE that is not told", THREE);
        d.badStatement(3, "insert ^v 1");
        d.badStatement(3, "delete ^a");
        d.badStatement(3, "set ^x a 1");
        d.badStatement(1, "delete ^if");
        d.badStatement(1, "insert ^5");
    }

    static void conditions() {
        String four = "delete t if a < 1 and a = 99 and b > 0 and c = none";
        edge("BOOK: COND1: 1 to 4 of them", TWO);
        d.would("delete t", 0);
        d.would("delete t if a = 1", 0);
        d.would(four, 0);
        d.would("set t a 1 b 2 if a<1 and b>none", 0);
        d.badStatement(1, "delete t if^");
        d.badStatement(1, "delete t if a = 1 and^");
        d.badStatement(1, "delete t ^and a = 1");
        d.badStatement(1, "delete t if a = 1 ^or a = 2");
        d.badStatement(1, "delete t if a = 1 ^b = 1");
        d.badStatement(1, "delete t if a = 1 ^if b = 1");
        d.badStatement(1, "insert t 1 2 3 ^if a = 1");
        edge("FAULTS: 4 a fifth COND1", TWO);
        d.badStatement(4, four + " and ^b = 1");
        d.badStatement(4, "set t b 1 if a=1 and a=1 and a=1 and a=1 and ^a=1 and a=1");
        d.badBook(4, four + " and ^b = 1;");
        edge("FAULTS: of one TOKEN the least: a fifth COND1", TWO);
        d.badStatement(3, four + " and ^x = 1");
        d.badStatement(1, four + " and ^row = 1");
        d.badStatement(1, four + " and^");
        edge("BOOK: COND1: COL SIGN VALUE", TWO);
        d.badStatement(1, "delete t if ^5 = a");
        d.badStatement(1, "delete t if a ^5");
        d.badStatement(1, "delete t if a ^100");
        d.badStatement(1, "delete t if a ^( 5");
        d.badStatement(1, "delete t if a = ^b");
        d.badStatement(1, "delete t if a =^");
        d.badStatement(3, "delete t if ^x = 1");
        d.badStatement(3, "delete t if a = 1 and ^t = 1");
        d.badStatement(1, "delete t if ^row = 1");
    }

    static void statementAsAWhole() {
        edge("STATEMENT: at most 200 bytes", ONE);
        d.does(Due.padded("insert t 5", 200), 1);
        d.does(Due.placed("insert t", 199, "6"), 1);
        d.cells(1, 6);
        d.does(Due.padded("insert t 5", 201), 200, 1);
        d.does(Due.placed("insert t", 200, "6"), 200, 1);
        d.does(Due.placed("insert t", 199, "66"), 200, 1);
        d.does(Due.placed("insert t", 199, "100"), 199, 2);
        d.does(Due.placed("insert t 5", 199, "; "), 199, 1);
        d.is("now(1)", x.now(1), 2);
        edge("STATEMENT: one such LINE of the first three, without ;", ONE);
        d.badStatement(1, "^");
        d.badStatement(1, "  ^");
        d.badStatement(1, "^begin");
        d.badStatement(1, "^commit");
        d.badStatement(1, "^back");
        d.badStatement(1, "^;");
        d.badStatement(1, "^t");
        d.badStatement(1, "insert t 5^;");
        d.badStatement(1, "delete t^;");
        d.badStatement(1, "set t a 5 if a = 5^;");
        d.badStatement(1, "delete t ^delete t");
    }

    static void sentenceAsAWhole() {
        edge("SENTENCE: at most 200 bytes", ONE);
        d.sentence(Due.padded("bare", 200), 1);
        d.sentence(Due.placed("not", 195, "known"), 2);
        d.sentence(Due.padded("bare", 201), 200, 1);
        d.sentence(Due.placed("not", 196, "known"), 200, 1);
        d.sentence(Due.placed("not", 196, "knowns"), 196, 3);
        d.sentence(Due.placed("not", 196, "knownsss"), 196, 1);
        d.sentence(Due.placed("bare", 199, ") "), 199, 1);
        edge("SENTENCE: there is one ONE at least", ONE);
        d.badSentence(1, "^");
        d.badSentence(1, " \n^");
        d.badSentence(1, "(^)");
        d.badSentence(1, "not^");
        d.badSentence(1, "bare or^");
        d.badSentence(1, "bare and^");
        d.badSentence(1, "^or bare");
        d.badSentence(1, "bare or ^and bare");
        d.badSentence(1, "bare ^bare");
        d.badSentence(1, "bare ^not bare");
        d.badSentence(1, "bare^;");
        d.badSentence(1, "(bare^");
        d.badSentence(1, "bare^)");
        d.badSentence(1, "(bare or known^;");
        for (String word : TOLD_WORDS) {
            if (!" not bare known broken in row ".contains(" " + word + " ")) {
                d.badSentence(1, "bare or ^" + word + " < 5");
            }
        }
    }

    static void sentenceParts() {
        edge("SENTENCE: 'in' TABLE", PAIR);
        d.sentence("in u", 1);
        d.badSentence(1, "in^");
        d.badSentence(3, "in ^a");
        d.badSentence(3, "in ^v");
        d.badSentence(1, "in ^row");
        d.badSentence(1, "in ^5");
        edge("SENTENCE: ( 'row' | COL of some TABLE ) SIGN NUMBER (0 to 99)", PAIR);
        d.sentence("row < 0", 1);
        d.sentence("row > 99", 1);
        d.sentence("x = 0 or b = 99", 2);
        d.badSentence(2, "row = ^100");
        d.badSentence(2, "a < ^100");
        d.badSentence(1, "a < ^1000");
        d.badSentence(1, "a = ^none");
        d.badSentence(1, "a = ^b");
        d.badSentence(1, "row = ^a");
        d.badSentence(1, "row ^5");
        d.badSentence(1, "a^");
        d.badSentence(1, "a <^");
        d.badSentence(1, "^5 < a");
        d.badSentence(1, "a ^( 5");
        edge("FAULTS: 3 a COL that is not told, or a TABLE, in a SENTENCE", PAIR);
        d.badSentence(3, "^t < 5");
        d.badSentence(3, "bare or ^zz < 5");
        d.badSentence(3, "^zz");
    }

    static void sentenceBounds() {
        String nineteen = "bare" + " or bare".repeat(18);
        edge("SENTENCE: 20 ONES", ONE);
        d.sentence(nineteen + " or bare", 20);
        d.sentence(nineteen + " or a = 5", 20);
        d.sentence("bare or bare" + " and (bare)".repeat(9), 20);
        d.sentence("not not bare or bare and not (bare) or not not not not (bare or not bare and bare)", 16);
        edge("FAULTS: 4 a 21st ONE (at its first TOKEN)", ONE);
        d.badSentence(4, nineteen + " or bare or ^bare");
        d.badSentence(4, nineteen + " or bare and ^not bare");
        d.badSentence(4, nineteen + " or bare or ^row < 5");
        d.badSentence(4, nineteen + " or bare or ^a < 5");
        d.badSentence(4, nineteen + " or bare or ^in t");
        d.badSentence(4, nineteen + " or bare or ^(");
        edge("SENTENCE: each not, bracket and other one is a ONE", ONE);
        d.badSentence(4, nineteen + " or not ^bare");
        d.badSentence(4, nineteen + " or (^bare)");
        edge("FAULTS: of one TOKEN the least: a 21st ONE", ONE);
        d.badSentence(3, nineteen + " or bare or ^zz < 5");
        d.badSentence(1, nineteen + " or bare or ^)");
        d.badSentence(1, nineteen + " or bare or^");
        edge("SENTENCE: 8 ONES within one another", ONE);
        d.sentence("not ".repeat(7) + "bare", 8);
        d.sentence("(".repeat(7) + "bare" + ")".repeat(7), 8);
        d.sentence("not (not (not (not bare or bare) and bare))", 10);
        d.sentence("not ".repeat(7) + "bare or " + "not ".repeat(7) + "bare", 16);
        edge("FAULTS: 4 a ninth within (at its first TOKEN)", ONE);
        d.badSentence(4, "not ".repeat(8) + "^bare");
        d.badSentence(4, "(".repeat(8) + "^bare" + ")".repeat(8));
        d.badSentence(4, "(".repeat(7) + "not ^bare" + ")".repeat(7));
        d.badSentence(4, "not ".repeat(8) + "^(bare)");
        d.badSentence(4, "bare or (known and " + "not ".repeat(7) + "^a < 5)");
        edge("FAULTS: of one TOKEN the least: a ninth within", ONE);
        d.badSentence(3, "not ".repeat(8) + "^zz");
        d.badSentence(1, "not ".repeat(8) + "^or");
    }

    static void faultOrder() {
        edge("FAULTS: the first along the text");
        d.badSchema(3, "table t a ^a;.;table t 5;");
        d.badSchema(1, "table t a;^.;table t a a;");
        d.badSchema(2, "table t a;default t a ^100 5;need u a;");
        d.badSchema(1, "table t a;default t a 5 ^100;");
        d.badSchema(3, "table t a;default ^u a 100;");
        d.schema("table t a;", 1);
        d.badStatement(3, "set t a 1 ^a 100");
        d.badStatement(2, "insert t ^100 5");
        d.badBook(3, "delete ^u;delete t if a = 100;");
        edge("FAULTS: of one TOKEN the least: a NUMBER where none can come is no 2", ONE);
        d.badSchema(1, "table t ^100;");
        d.badStatement(1, "delete t ^100");
        d.badStatement(1, "insert ^100 5");
        d.badSentence(1, "^100");
        d.badBook(1, "begin ^100;");
        edge("FAULTS: of one TOKEN the least: a NAME where none can come is no 3", ONE);
        d.badSchema(1, "table t a;^zz t a;");
        d.badStatement(1, "insert t ^zz");
        d.badStatement(1, "delete t ^zz");
        d.badSentence(1, "bare ^zz");
    }
}
