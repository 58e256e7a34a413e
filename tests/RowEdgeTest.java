import java.util.ArrayList;
import java.util.List;

/** Terms 2 and 3: each sentence on ROWS that names a bound or an edge, by a test of its own that names it. */
public final class RowEdgeTest {
    static final int NONE = -1;
    static final String ONE = "table t a;";
    static final String FAMILY = "table p k m;table c r s;key p k;default c r 4;default c s 5;";
    static final String PAIRS = "table u a b;table v c e;key u a b;default v c 4;default v e 5;";

    static Due d;
    static FollowingRefs x;

    static void edge(String sentence, String tables) {
        d = new Due();
        d.promise = "Terms " + sentence;
        x = d.x;
        d.put(tables);
        d.so("a SCHEMA: " + tables, x.schema() > 0, true);
    }

    static void rows(String book) {
        d.book(1, book, NONE);
    }

    public static void main(String[] args) {
        values();
        numbers();
        referring();
        needs();
        keys();
        refs();
        checks();
        orderOfViolations();
        finding();
        inserting();
        deleting();
        goneOnes();
        changedOnes();
        changedPairs();
        overAndOver();
        twoValues();
        judgedAsAWhole();
        lateOnes();
        transactions();
        touched();
        steps();
        perils();
        order();
        mean();
        tag();
        drawnOnce();
        drawnOften();
        newSchema();
        Due.close("RowEdgeTest");
    }

    static void values() {
        edge("2: a ROW has for each COL a VALUE (0 to 99) or none", "table t a b c d;");
        d.does("insert t 0 99 none 1", 1);
        d.cells(0, 0, 99, NONE, 1);
        d.does("set t a none b 0 if a = 0", 1);
        d.cells(0, NONE, 0, NONE, 1);
    }

    static void numbers() {
        edge("2: ROWS are numbered from 0 as they are inserted", "table t a;table u b;");
        rows("insert u 1;insert t 2;insert u 3;");
        d.is("tableOf(0)", x.tableOf(0), 1);
        d.is("tableOf(1)", x.tableOf(1), 0);
        d.is("tableOf(2)", x.tableOf(2), 1);
        edge("2: a number is never given again: of a ROW that went", ONE);
        rows("insert t 1;insert t 2;delete t if a = 2;insert t 3;");
        d.is("row(0, 1)", x.row(0, 1), 2);
        d.does("delete t", 2);
        d.does("insert t 4", 1);
        d.is("row(0, 0)", x.row(0, 0), 3);
        edge("2: a number is given by what is inserted alone: not by what was refused", ONE + "key t a;");
        rows("insert t 1;");
        d.does("insert t 1", -1002);
        d.would("insert t 2", 1);
        d.does("insert t 3", 1);
        d.is("row(0, 1)", x.row(0, 1), 1);
    }

    static void referring() {
        edge("2: it refers to the ROW whose KEY's COLS have what its own have",
                PAIRS + "ref v c e to u a b refuse refuse late;");
        rows("begin;insert u 1 2;insert u 2 1;insert v 2 1;insert v 1 1;insert v 1 2;");
        d.is("refers(2, 0)", x.refers(2, 0), 1);
        d.is("refers(3, 0)", x.refers(3, 0), NONE);
        d.is("refers(4, 0)", x.refers(4, 0), 0);
        edge("2: it refers to the ROW whose KEY's COLS have what its own have: 0 is a VALUE",
                PAIRS + "ref v c e to u a b refuse refuse;");
        rows("insert u 1 1;insert u 1 0;insert u 0 1;insert u 0 0;insert v 0 0;insert v 1 0;insert v 0 1;");
        d.is("refers(4, 0)", x.refers(4, 0), 3);
        d.is("refers(5, 0)", x.refers(5, 0), 1);
        d.is("refers(6, 0)", x.refers(6, 0), 2);
        edge("2: it refers to the ROW whose KEY's COLS have what its own have: in that order", "table u a b c d;table v c e;"
                + "key u b a;ref v c e to u b a refuse refuse late;");
        rows("begin;insert u 1 2 3 4;insert u 2 1 3 4;insert v 1 2;insert v 2 1;insert v 1 1;");
        d.is("refers(2, 0)", x.refers(2, 0), 1);
        d.is("refers(3, 0)", x.refers(3, 0), 0);
        d.is("refers(4, 0)", x.refers(4, 0), NONE);
        edge("2: it refers to a ROW of 4 COLS", "table u a b c d;table v e;key u a;ref v e to u a refuse refuse;");
        rows("insert u 1 2 3 4;insert u 2 3 4 5;insert v 2;insert v 1;");
        d.is("refers(2, 0)", x.refers(2, 0), 1);
        d.is("refers(3, 0)", x.refers(3, 0), 0);
        edge("2: it refers to a ROW behind it, too", "table t k r;key t k;ref t r to t k refuse refuse late;");
        rows("begin;insert t 1 2;insert t 2 none;commit;");
        d.is("refers(0, 0)", x.refers(0, 0), 1);
        d.is("referred(1)", x.referred(1), 1);
        d.is("referred(0)", x.referred(0), 0);
        edge("2: it refers by none of them none", PAIRS + "ref v c e to u a b refuse refuse;");
        rows("insert u 1 2;insert v 1 none;insert v none 2;insert v none none;");
        for (int row = 1; row < 4; row++) {
            d.is("refers(" + row + ", 0)", x.refers(row, 0), NONE);
        }
        d.is("referred(0)", x.referred(0), 0);
        edge("2: it refers to a ROW of the other TABLE alone", "table t a b;table u a b;key t a;key u a;"
                + "ref t b to u a refuse refuse late;");
        rows("begin;insert t 1 1;insert u 2 1;");
        d.is("refers(0, 0)", x.refers(0, 0), NONE);
        d.is("refers(1, 0)", x.refers(1, 0), NONE);
        d.does("insert u 1 none", 1);
        d.is("refers(0, 0)", x.refers(0, 0), 2);
    }

    static void needs() {
        edge("2, VIOLATIONS: 1 none in a COL of which 'need' is told", "table t a b;need t b;");
        d.does("insert t none 0", 1);
        d.does("insert t 0 none", -1001);
        d.violated(0, 1, 1, 1);
        d.does("set t b none", -1001);
        d.violated(0, 1, 1, 0);
        edge("2, VIOLATIONS: 1 none in a COL that is in a KEY", "table t a b c;key t c a;");
        d.does("insert t 1 none 1", 1);
        d.does("insert t 1 2 none", -1001);
        d.violated(0, 1, 2, 1);
        d.does("insert t none 2 1", -1001);
        d.violated(0, 1, 0, 1);
        edge("2, VIOLATIONS: 1 one, though 'need' is told and it is in two KEYS", "table t a;key t a;key t a;need t a;");
        d.does("insert t none", -1001);
        d.violated(0, 1, 0, 0);
        d.is("violated(1, 0)", x.violated(1, 0), NONE);
    }

    static void keys() {
        edge("2, VIOLATIONS: 2 an earlier ROW has like VALUES", ONE + "key t a;");
        rows("insert t 1;insert t 2;insert t 3;");
        d.does("set t a 2 if a = 1", -1002);
        d.violated(0, 2, 0, 1);
        d.is("violated(1, 0)", x.violated(1, 0), NONE);
        d.does("set t a 2 if a = 3", -1002);
        d.violated(0, 2, 0, 2);
        d.does("set t a 9", -1002);
        d.violated(0, 2, 0, 1);
        d.violated(1, 2, 0, 2);
        d.is("violated(2, 0)", x.violated(2, 0), NONE);
        edge("2, VIOLATIONS: 2 in all its COLS", "table t a b;key t a b;");
        rows("insert t 1 2;insert t 1 3;insert t 2 2;insert t 2 1;");
        d.does("insert t 2 1", -1002);
        d.violated(0, 2, 0, 4);
        edge("2, VIOLATIONS: 2 in all its COLS: 0 is a VALUE", "table t a b c d;key t b a;key t c;");
        rows("insert t 0 0 0 9;insert t 0 1 1 9;insert t 1 0 2 9;");
        d.does("insert t 0 0 4 9", -1002);
        d.violated(0, 2, 0, 3);
        d.does("insert t 1 0 4 9", -1002);
        d.does("insert t 9 9 0 9", -1002);
        d.violated(0, 2, 1, 3);
        d.does("insert t 1 1 4 9", 1);
        edge("2, VIOLATIONS: 2 without none", "table t a b;key t a b;");
        rows("insert t 1 2;insert t 3 4;");
        d.does("set t a none", -1001);
        d.violated(0, 1, 0, 0);
        d.violated(1, 1, 0, 1);
        d.is("no 2", x.violated(2, 0), NONE);
        d.does("set t b none a 7", -1001);
        d.violated(1, 1, 1, 1);
        d.is("no 2", x.violated(2, 0), NONE);
        d.does("set t b none a none", -1001);
        d.violated(3, 1, 1, 1);
        d.is("no 2", x.violated(4, 0), NONE);
        edge("2, VIOLATIONS: 2 of ROWS of that TABLE alone", "table t a;table u a;key t a;key u a;");
        d.does("insert t 1", 1);
        d.does("insert u 1", 1);
        d.does("insert u 1", -1002);
        d.violated(0, 2, 1, 2);
    }

    static void refs() {
        edge("2, VIOLATIONS: 3 no COL has none, but it refers to no ROW", PAIRS + "ref v c e to u a b refuse refuse;");
        d.does("insert u 1 2", 1);
        d.does("insert v 1 2", 1);
        d.does("insert v 2 1", -1003);
        d.violated(0, 3, 0, 2);
        d.does("insert v 1 none", 1);
        d.does("insert v none 7", 1);
        d.does("insert v none none", 1);
        edge("2, VIOLATIONS: 3 ('full') some have none, and some not", PAIRS + "ref v c e to u a b refuse refuse full;");
        d.does("insert u 1 2", 1);
        d.does("insert v 1 none", -1003);
        d.violated(0, 3, 0, 1);
        d.does("insert v none 2", -1003);
        d.does("insert v none none", 1);
        d.does("insert v 1 2", 1);
        edge("2, VIOLATIONS: 3 ('full') of a REF of one COL there are none by this",
                FAMILY + "ref c r to p k refuse refuse full;");
        d.does("insert c none 1", 1);
        d.does("insert c 1 none", -1003);
        edge("2, VIOLATIONS: 3 a ROW may refer to itself", "table t a b;key t a;ref t b to t a refuse refuse;");
        d.does("insert t 5 5", 1);
        d.is("refers(0, 0)", x.refers(0, 0), 0);
        d.does("insert t 6 7", -1003);
    }

    static void checks() {
        edge("2, VIOLATIONS: 4 SIGN does not hold", "table t a b c;check t a < 5;check t b = 5;check t c > 5;");
        d.does("insert t 4 5 6", 1);
        d.does("insert t 5 4 5", -1004);
        d.violated(0, 4, 0, 1);
        d.violated(1, 4, 1, 1);
        d.violated(2, 4, 2, 1);
        d.does("insert t 0 6 99", -1004);
        d.violated(0, 4, 1, 1);
        d.is("violated(1, 0)", x.violated(1, 0), NONE);
        edge("2, VIOLATIONS: 4 with none on either side it holds", "table t a b;check t a < b;check t b = 0;");
        d.does("insert t none 0", 1);
        d.does("insert t 5 none", 1);
        d.does("insert t none none", 1);
        d.does("insert t 0 0", -1004);
        d.violated(0, 4, 0, 3);
        edge("2, VIOLATIONS: 4 of a CHECK by the ROWS of its TABLE alone", "table t a;table u a;check u a > 5;");
        d.does("insert t 1", 1);
        d.does("insert u 1", -1004);
    }

    static void orderOfViolations() {
        edge("2, VIOLATIONS: in order by kind", "table t a b c;key t a;need t b;ref t c to t a refuse refuse;"
                + "check t a > 5;");
        rows("insert t 7 1 none;");
        d.does("insert t 7 none 3", -1001);
        d.violated(0, 1, 1, 1);
        d.violated(1, 2, 0, 1);
        d.violated(2, 3, 0, 1);
        d.is("violated(3, 0)", x.violated(3, 0), NONE);
        d.does("insert t 3 1 4", -1003);
        d.violated(0, 3, 0, 1);
        d.violated(1, 4, 0, 1);
        edge("2, VIOLATIONS: in order by number, then by ROW", "table t a b;key t a;key t b;");
        rows("insert t 1 1;insert t 2 2;insert t 3 3;");
        d.does("set t a 5 b 6", -1002);
        d.violated(0, 2, 0, 1);
        d.violated(1, 2, 0, 2);
        d.violated(2, 2, 1, 1);
        d.violated(3, 2, 1, 2);
        edge("2, VIOLATIONS: in order 1: TABLE by TABLE, by COL, by ROW",
                "table k i;table t a b;table u a;key k i;need t b;need t a;need u a;ref t a to k i clear refuse;"
                + "ref t b to k i clear refuse;ref u a to k i clear refuse;");
        rows("insert k 1;insert u 1;insert t 1 1;insert t 1 1;insert u 1;");
        d.does("delete k", -1001);
        int[][] due = {{0, 2}, {0, 3}, {1, 2}, {1, 3}, {0, 1}, {0, 4}};
        for (int k = 0; k < due.length; k++) {
            d.violated(k, 1, due[k][0], due[k][1]);
        }
        d.is("violated(6, 0)", x.violated(6, 0), NONE);
    }

    static void found(String conds, int... rows) {
        d.would("delete t if " + conds, rows.length);
        d.is("judged(1) of " + conds, x.judged(1), rows.length);
        for (int k = 0; k < rows.length; k++) {
            d.is("goes(" + k + ") of " + conds, x.goes(k), rows[k]);
        }
    }

    static void finding() {
        edge("2: a STATEMENT finds ROWS whose COLS are as each COND1 tells", "table t a b;table u a b;");
        rows("insert t 5 1;insert t 6 1;insert t none 1;insert t 7 2;insert t 0 none;insert u 6 1;");
        found("a < 6", 0, 4);
        found("a = 6", 1);
        found("a > 6", 3);
        found("a > 4 and b = 1", 0, 1);
        found("b = 1 and a > 5 and a < 7 and a = 6", 1);
        found("a = 5 and a = 6");
        edge("2: a STATEMENT finds: = none, if it has none; else not so with none", "table t a b;");
        rows("insert t none 0;insert t 0 0;insert t none 1;");
        found("a = none", 0, 2);
        found("a < none");
        found("a > none");
        found("a < 99", 1);
        found("a = 0", 1);
        found("a > 0");
        found("a = none and b = 1", 2);
        edge("2: a STATEMENT finds all of its TABLE without COND1", "table t a;table u a;");
        rows("insert t 1;insert u 2;insert t none;");
        d.does("set t a 3", 2);
        d.does("delete t", 2);
        d.is("rows(1)", x.rows(1), 1);
    }

    static void inserting() {
        edge("2: to insert: 6 there are 40 ROWS", ONE);
        d.fill(39);
        d.does("insert t 7", 1);
        d.is("now(0)", x.now(0), 40);
        d.does("insert t 7", -1006);
        d.judged(6, 0, 0, 0);
        d.would("insert t 7", -1006);
        d.is("now(1)", x.now(1), 40);
        d.does("set t a 8 if a = 7", 40);
        d.book(1, "delete t;insert t 7;", NONE);
        d.is("row(0, 0)", x.row(0, 0), 40);
        edge("2: to insert: 6 there are 40 ROWS, of all TABLES", "table t a;table u b;");
        d.fill(20);
        d.book(1, "insert u 5;".repeat(20), NONE);
        d.does("insert u 5", -1006);
        d.does("insert t 5", -1006);
        d.does("delete u", 20);
        d.does("insert t 5", 1);
        edge("2: to insert: 6 99 were", ONE);
        d.fill(40);
        d.does("delete t", 40);
        d.fill(40);
        d.does("delete t", 40);
        d.fill(18);
        d.does("insert t 8", 1);
        d.is("row(0, 18)", x.row(0, 18), 98);
        d.is("now(1)", x.now(1), 99);
        d.does("insert t 9", -1006);
        d.does("delete t", 19);
        d.does("insert t 9", -1006);
        d.book(0, "insert t 9;", 0);
        d.is("told(0)", x.told(0), 6);
        edge("2: to insert: 6 is judged ahead of VIOLATIONS", ONE + "need t a;");
        d.fill(40);
        d.does("insert t none", -1006);
        d.is("violated(0, 0)", x.violated(0, 0), NONE);
    }

    static void deleting() {
        edge("2: to delete: over and over, all that refer by a REF whose first ON is 'follow'",
                "table t k r;key t k;ref t r to t k follow refuse;");
        rows("insert t 1 none;insert t 2 1;insert t 3 2;insert t 4 3;insert t 5 none;insert t 6 5;");
        d.would("delete t if k = 2", 3);
        d.is("goes(0)", x.goes(0), 1);
        d.is("goes(2)", x.goes(2), 3);
        d.does("delete t if k = 1", 4);
        d.is("now(0)", x.now(0), 2);
        for (int on = 0; on < 4; on++) {
            String word = TextEdgeTest.ONS[on];
            edge("2: to delete: by a REF whose first ON is '" + word + "'", FAMILY + "ref c r to p k " + word + " follow;");
            rows("insert p 1 0;insert p 4 0;insert c 1 0;");
            d.would("delete p if k = 1", on == 0 ? -1003 : 2);
            d.is("judged(2)", x.judged(2), on == 1 ? 2 : 1);
            d.is("judged(3)", x.judged(3), on >= 2 ? 1 : 0);
        }
        edge("2: to delete: a ring goes as a whole", "table t k r;key t k;ref t r to t k follow refuse late;");
        rows("begin;insert t 1 3;insert t 2 1;insert t 3 2;commit;");
        d.does("delete t if k = 2", 3);
        edge("2: to delete: a ROW that refers to itself", "table t k r;key t k;ref t r to t k refuse refuse;");
        rows("insert t 1 1;insert t 2 1;");
        d.does("delete t if k = 1", -1003);
        d.violated(0, 3, 0, 1);
        d.does("delete t if k = 2", 1);
        d.does("delete t if k = 1", 1);
    }

    static void goneOnes() {
        edge("2: what it referred to goes: by the first ON 'clear' none in the COLS of the REF",
                FAMILY + "ref c r to p k clear follow;");
        rows("insert p 1 0;insert p 2 0;insert c 1 9;insert c 2 9;insert c none 9;");
        d.does("delete p if k = 1", 2);
        d.cells(2, NONE, 9);
        d.cells(3, 2, 9);
        edge("2: what it referred to goes: by the first ON 'reset' the defaults", FAMILY + "ref c r to p k reset follow;");
        rows("insert p 1 0;insert p 4 0;insert c 1 9;");
        d.does("delete p if k = 1", 2);
        d.cells(2, 4, 9);
        edge("2: what it referred to goes: 'reset': none without a default", "table p k;table c r s;key p k;"
                + "ref c r to p k reset follow;default c s 7;");
        rows("insert p 1;insert c 1 9;");
        d.does("delete p", 2);
        d.cells(1, NONE, 9);
        edge("2: what it referred to goes: all COLS of the REF", PAIRS + "ref v c e to u a b clear refuse;");
        rows("insert u 1 2;insert v 1 2;");
        d.does("delete u", 2);
        d.cells(1, NONE, NONE);
        edge("2: what it referred to goes: all COLS of the REF, their defaults", PAIRS + "ref v c e to u a b reset refuse;");
        rows("insert u 1 2;insert u 4 5;insert v 1 2;");
        d.does("delete u if a = 1", 2);
        d.cells(2, 4, 5);
        edge("2: what it referred to goes: the second ON does nothing", FAMILY + "ref c r to p k refuse clear;");
        rows("insert p 1 0;insert c 1 9;");
        d.does("delete p", -1003);
        d.judged(3, 1, 1, 0);
    }

    static void changedOnes() {
        int[] due = {-1003, 2, 2, 2};
        int[] then = {1, 8, NONE, 4};
        for (int on = 0; on < 4; on++) {
            String word = TextEdgeTest.ONS[on];
            edge("2: its KEY's COL is to have another VALUE: by the second ON '" + word + "'",
                    FAMILY + "ref c r to p k follow " + word + ";");
            rows("insert p 1 0;insert p 4 0;insert c 1 9;insert c 4 9;");
            d.does("set p k 8 if k = 1", due[on]);
            d.cells(2, then[on], 9);
            d.cells(3, 4, 9);
            d.is("judged(3)", x.judged(3), on == 0 ? 1 : 2);
        }
        edge("2: another VALUE than they have: a like one changes nothing", FAMILY + "ref c r to p k follow clear;");
        rows("insert p 1 0;insert c 1 9;");
        d.does("set p k 1", 0);
        d.cells(1, 1, 9);
        edge("2: some COLS of its KEY: another COL changes nothing", FAMILY + "ref c r to p k follow clear;");
        rows("insert p 1 0;insert c 1 9;");
        d.does("set p m 8", 1);
        d.cells(1, 1, 9);
        edge("2: by what they referred to ahead of it all", FAMILY + "ref c r to p k clear follow;");
        rows("insert p 1 0;insert p 2 0;insert c 1 9;insert c 2 9;");
        d.does("set p k 3 if k = 2", 2);
        d.does("set p k 2 if k = 1", 2);
        d.cells(2, 2, 9);
        d.cells(3, 3, 9);
    }

    static void changedPairs() {
        String[][] sets = {{"set u a 8", "8", "2"}, {"set u b 9", "1", "9"}, {"set u a 8 b 9", "8", "9"}, {"set u b 2 a 8",
                "8", "2"}};
        for (String[] set : sets) {
            edge("2: by the second ON 'follow': the COLS of the REF for just these COLS: " + set[0],
                    PAIRS + "ref v c e to u a b refuse follow;");
            rows("insert u 1 2;insert v 1 2;");
            d.does(set[0], 2);
            d.cells(1, Integer.parseInt(set[1]), Integer.parseInt(set[2]));
            edge("2: by the second ON 'clear': all COLS of the REF: " + set[0], PAIRS + "ref v c e to u a b refuse clear;");
            rows("insert u 1 2;insert v 1 2;");
            d.does(set[0], 2);
            d.cells(1, NONE, NONE);
            edge("2: by the second ON 'reset': all COLS of the REF: " + set[0], PAIRS + "ref v c e to u a b refuse reset;");
            rows("insert u 1 2;insert u 4 5;insert v 1 2;");
            d.does(set[0] + " if a = 1", 2);
            d.cells(2, 4, 5);
        }
        edge("2: by the second ON 'follow': for just these COLS", PAIRS + "ref v c e to u a b refuse follow;"
                + "ref v e c to u a b refuse refuse;");
        rows("insert u 1 2;insert u 2 1;insert v 1 2;");
        d.would("set u a 8 if a = 1", -1003);
        d.violated(0, 3, 1, 2);
        d.judged(3, 1, 0, 2);
    }

    static void overAndOver() {
        edge("2: of all ROWS, over and over: a change goes on", "table t k r;key t k;ref t r to t k refuse follow;table u i;"
                + "key u i;ref t k to u i refuse follow;");
        rows("insert u 1;insert u 2;insert u 3;insert t 1 none;insert t 2 1;insert t 3 1;");
        d.does("set u i 7 if i = 1", 4);
        d.cells(3, 7, NONE);
        d.cells(4, 2, 7);
        d.cells(5, 3, 7);
        edge("2: of all ROWS, over and over: ROWS ahead of what they refer to", "table a k;table b k;table c k;key a k;"
                + "key b k;key c k;"
                + "ref c k to b k refuse follow;ref b k to a k refuse follow;");
        rows("insert a 1;insert b 1;insert c 1;");
        d.does("set a k 2", 3);
        d.cells(2, 2);
        edge("2: of all ROWS, over and over: ROWS ahead of those that they refer to", "table a k;table b k;table c k;"
                + "table e k;key a k;key b k;key c k;key e k;"
                + "ref e k to c k refuse follow late;ref c k to b k refuse follow late;ref b k to a k refuse follow late;");
        rows("begin;insert e 1;insert c 1;insert b 1;insert a 1;commit;");
        d.does("set a k 2", 4);
        d.cells(0, 2);
        d.cells(1, 2);
        edge("2: of all ROWS, over and over: of a deletion, too", "table a k;table b k r;table c s;key a k;key b k r;"
                + "key b r;default b r 3;"
                + "ref b r to a k reset refuse;ref c s to b r refuse follow;");
        rows("insert a 1;insert a 3;insert b 5 1;insert c 1;");
        d.does("delete a if k = 1", 3);
        d.cells(2, 5, 3);
        d.cells(3, 3);
        edge("2: of all ROWS, over and over: round a ring, to its begin", "table t k r;key t k;key t r;"
                + "ref t r to t k refuse follow late;ref t k to t r refuse follow late;");
        rows("begin;insert t 1 2;insert t 2 3;insert t 3 1;commit;");
        d.does("set t k 9 if k = 2", 2);
        d.cells(0, 1, 9);
        d.cells(1, 9, 3);
        edge("2: ROWS that are to go change nothing of others", "table a k;table b k r;table c s;key a k;key b k;key b r;"
                + "ref b r to a k follow refuse;ref c s to b r clear follow;");
        rows("insert a 1;insert b 5 1;insert c 1;");
        d.does("delete a", 3);
        d.cells(2, NONE);
        d.judged(0, 1, 2, 1);
    }

    static void refusedByFive(String statement, int found, int going) {
        d.does(statement, -1005);
        d.judged(5, found, going, 0);
        d.is("violated(0, 0)", x.violated(0, 0), NONE);
    }

    static void twoValues() {
        String both = "table p k;table q k;table c r;key p k;key q k;default c r 3;";
        edge("2: 5 one COL of one ROW is to have two unlike VALUES", both + "ref c r to p k refuse follow;"
                + "ref p k to q k refuse follow;ref c r to q k refuse reset;");
        rows("insert q 1;insert q 3;insert p 1;insert p 3;insert c 1;");
        refusedByFive("set q k 8 if k = 1", 1, 0);
        d.cells(4, 1);
        edge("2: 5 one of these may be what it has", "table t k r;key t k;ref t r to t k refuse follow;");
        rows("insert t 1 1;");
        refusedByFive("set t k 2 r 1", 1, 0);
        d.does("set t k 2 r 2", 1);
        d.cells(0, 2, 2);
        edge("2: 5 one of these may be what it has, and none is unlike a VALUE", both + "ref c r to p k clear refuse;"
                + "ref c r to q k reset refuse;ref p k to q k follow refuse;");
        rows("insert q 1;insert q 3;insert p 1;insert p 3;insert c 1;");
        refusedByFive("delete q if k = 1", 1, 2);
        d.is("goes(0)", x.goes(0), 0);
        d.is("goes(1)", x.goes(1), 2);
        d.is("steps(2)", x.steps(2), 1);
        edge("2: 5 like ones are no matter", both + "ref c r to p k refuse follow;ref p k to q k refuse follow;"
                + "ref c r to q k refuse follow;");
        rows("insert q 1;insert p 1;insert c 1;");
        d.does("set q k 8", 3);
        d.cells(2, 8);
        edge("2: 5 like ones are no matter: none twice", both + "ref c r to p k clear refuse;ref p k to q k follow refuse;"
                + "ref c r to q k clear refuse;");
        rows("insert q 1;insert p 1;insert c 1;");
        d.does("delete q", 3);
        d.cells(2, NONE);
        edge("2: 5 like ones are no matter: a default that is like", both + "ref c r to p k refuse follow;"
                + "ref p k to q k refuse follow;ref c r to q k refuse reset;");
        rows("insert q 1;insert p 1;insert c 1;");
        d.does("set q k 3", 3);
        d.cells(2, 3);
        edge("2: 5 nor is what ROWS that go would have", both + "ref c r to p k clear refuse;ref c r to q k reset refuse;"
                + "ref p k to q k follow refuse;"
                + "ref c r to q k follow refuse;");
        rows("insert q 1;insert p 1;insert c 1;");
        d.does("delete q", 3);
        d.is("now(0)", x.now(0), 0);
        edge("2: 5 is judged ahead of VIOLATIONS", "table t k r;key t k;ref t r to t k refuse follow;");
        rows("insert t 1 1;insert t 2 none;");
        refusedByFive("set t k 2 r 1 if k = 1", 1, 0);
    }

    static void judgedAsAWhole() {
        edge("2: then all is done at once: no VIOLATION on the way", ONE + "key t a;");
        rows("insert t 1;insert t 2;");
        d.does("set t a 3 if a = 1", 1);
        d.does("set t a 1 if a = 2", 1);
        d.cells(1, 1);
        edge("2: 1 to 4 the kind of the first", "table t a b;need t b;key t a;check t a < 5;");
        d.does("insert t none 6", -1001);
        d.does("insert t 7 none", -1001);
        d.does("insert t 7 6", -1004);
        d.does("insert t 1 6", 1);
        d.does("insert t 1 6", -1002);
        edge("2: if it is refused, nothing is changed", "table p k;table c r;key p k;need c r;ref c r to p k clear follow;");
        rows("insert p 1;insert p 2;insert c 1;");
        d.does("delete p", -1001);
        d.does("set p k 5", -1002);
        d.does("insert c 7", -1003);
        d.is("now(0)", x.now(0), 3);
        d.is("now(1)", x.now(1), 3);
        d.cells(0, 1);
        d.cells(1, 2);
        d.cells(2, 1);
        d.is("undo() of the BOOK alone", x.undo(), 0);
        edge("2: else it is done, though it finds nothing, or nothing is another by it", ONE);
        rows("insert t 1;");
        d.does("delete t if a = 2", 0);
        d.does("set t a 1", 0);
        d.judged(0, 1, 0, 0);
        d.does("set t a 3 if a = none", 0);
        d.is("undo()", x.undo(), 3);
    }

    static void lateOnes() {
        edge("2: LATE ones are VIOLATIONS without a transaction", FAMILY + "ref c r to p k clear follow late;"
                + "check c s < 5 late;");
        d.does("insert c 1 2", -1003);
        d.does("insert c none 7", -1004);
        edge("2: LATE ones are none, while a transaction is on", FAMILY + "ref c r to p k clear follow late;"
                + "check c s < 5 late;check c s < 50;");
        d.is("begin()", x.begin(), 0);
        d.does("insert c 1 2", 1);
        d.does("insert c none 7", 1);
        d.does("insert c none 70", -1004);
        d.violated(0, 4, 1, 2);
        d.is("violated(1, 0)", x.violated(1, 0), NONE);
        edge("2: LATE ones are those of REFS and CHECKS alone that are 'late'", FAMILY + "ref c r to p k clear follow;"
                + "ref c s to p k clear follow late;check c s < 5;check c r < 5 late;need c s;");
        d.is("begin()", x.begin(), 0);
        d.does("insert c 1 2", -1003);
        d.violated(0, 3, 0, 0);
        d.is("violated(1, 0)", x.violated(1, 0), NONE);
        d.does("insert c none 7", -1004);
        d.violated(0, 4, 0, 0);
        d.does("insert c none none", -1001);
        d.does("insert c none 2", 1);
        d.is("now(3)", x.now(3), 1);
    }

    static void transactions() {
        edge("2: to BEGIN: 1 a transaction is on: one is", ONE);
        d.is("begin()", x.begin(), 0);
        d.is("now(2)", x.now(2), 1);
        d.does("insert t 1", 1);
        d.is("begin()", x.begin(), 1);
        d.is("now(2)", x.now(2), 1);
        d.is("back() to the one begun first", x.back(), 0);
        d.is("now(0)", x.now(0), 0);
        edge("2: to COMMIT: 1 none is on", ONE);
        d.is("commit()", x.commit(), 1);
        d.is("now(2)", x.now(2), 0);
        edge("2: to COMMIT: 2 there are VIOLATIONS", ONE + "check t a < 5 late;");
        d.is("begin()", x.begin(), 0);
        d.does("insert t 7", 1);
        d.is("commit()", x.commit(), 2);
        d.is("it is on still", x.now(2), 1);
        d.cells(0, 7);
        d.does("set t a 4", 1);
        d.is("commit()", x.commit(), 0);
        d.is("none is on", x.now(2), 0);
        d.cells(0, 4);
        edge("2: to go BACK: 1 none is on", ONE);
        d.is("back()", x.back(), 1);
        edge("2: to go BACK: all ROWS are as when it began (numbers go on), none is on", ONE);
        rows("insert t 1;insert t 2;");
        d.is("begin()", x.begin(), 0);
        rows("delete t if a = 1;set t a 9;insert t 3;insert t 4;");
        d.is("back()", x.back(), 0);
        d.is("now(0)", x.now(0), 2);
        d.is("now(1)", x.now(1), 4);
        d.is("now(2)", x.now(2), 0);
        d.cells(0, 1);
        d.cells(1, 2);
        d.is("tableOf(2)", x.tableOf(2), NONE);
        d.does("insert t 5", 1);
        d.cells(4, 5);
        d.is("back()", x.back(), 1);
        edge("2: to go BACK: numbers go on to 99, too", ONE);
        d.is("begin()", x.begin(), 0);
        d.fill(40);
        rows("delete t;");
        d.fill(40);
        rows("delete t;");
        d.fill(19);
        d.is("back()", x.back(), 0);
        d.is("now(0)", x.now(0), 0);
        d.does("insert t 1", -1006);
    }

    static void touched() {
        edge("3, TOUCHED: ROWS that are inserted, that go, of which some COL has another VALUE",
                FAMILY + "ref c r to p k follow clear;ref c s to p k clear follow;");
        d.does("insert p 1 0", 1);
        rows("insert p 2 0;insert c 1 2;insert c 2 1;insert c 2 2;");
        d.would("delete p if k = 1", 3);
        d.judged(0, 1, 2, 1);
        d.would("set p k 7 if k = 1", 3);
        d.would("set p m 0", 0);
        d.would("set p m 9", 2);
        d.would("set c r none s none", 3);
        edge("3, TOUCHED: one ROW once, though two COLS have another VALUE", "table t a b;");
        rows("insert t 1 2;");
        d.does("set t a 3 b 4", 1);
        d.does("set t a 3 b 5", 1);
        d.does("set t a none b 5", 1);
    }

    static void steps() {
        edge("3, STEPS: 0, if the STATEMENT found it", "table t k r;key t k;ref t r to t k follow refuse;");
        rows("insert t 1 none;insert t 2 1;insert t 3 2;insert t 4 3;");
        d.would("delete t if k < 3", 4);
        d.is("steps(0)", x.steps(0), 0);
        d.is("steps(1)", x.steps(1), 0);
        d.is("steps(2)", x.steps(2), 1);
        d.is("steps(3)", x.steps(3), 2);
        edge("3, STEPS: 1 more than the fewest", "table t k r s;key t k;ref t r to t k follow refuse;"
                + "ref t s to t k follow refuse;");
        rows("insert t 1 none none;insert t 2 1 none;insert t 3 2 none;insert t 4 3 1;insert t 5 4 3;");
        d.would("delete t if k = 1", 5);
        d.is("steps(2)", x.steps(2), 2);
        d.is("steps(3)", x.steps(3), 1);
        d.is("steps(4)", x.steps(4), 2);
        edge("3, STEPS: to one to which it refers by such a REF", "table t k r s;key t k;ref t r to t k clear refuse;"
                + "ref t s to t k follow refuse;");
        rows("insert t 1 none none;insert t 2 1 none;insert t 3 1 1;insert t 4 1 3;insert t 5 4 2;");
        d.would("delete t if k = 1", 5);
        d.is("steps(1)", x.steps(1), NONE);
        d.is("steps(3)", x.steps(3), 2);
        d.is("steps(4)", x.steps(4), NONE);
        d.judged(0, 1, 3, 2);
        edge("3, STEPS: by each ROW there is, one more", "table t k r;key t k;ref t r to t k follow refuse;");
        rows("insert t 0 none;" + chain(1, 19));
        rows(chain(20, 39));
        d.does("delete t if k = 0", 40);
        d.is("steps(39)", x.steps(39), 39);
        d.is("steps(20)", x.steps(20), 20);
    }

    static String chain(int from, int to) {
        StringBuilder s = new StringBuilder();
        for (int k = from; k <= to; k++) {
            s.append("insert t ").append(k).append(' ').append(k - 1).append(';');
        }
        return s.toString();
    }

    static void perils() {
        String four = "table a k;table b k;table c k;table d k;key a k;key b k;key c k;key d k;";
        edge("3, PERILS: by 'follow', over and over", four + "ref d k to c k follow refuse;ref c k to b k follow refuse;"
                + "ref b k to a k follow refuse;");
        int[] due = {14, 12, 8, 0};
        for (int t = 0; t < 4; t++) {
            d.is("table(" + t + ", 4)", x.table(t, 4), due[t]);
        }
        edge("3, PERILS: by no other ON, nor by a change", four + "ref d k to c k clear follow;ref c k to b k reset follow;"
                + "ref b k to a k refuse follow;");
        for (int t = 0; t < 4; t++) {
            d.is("table(" + t + ", 4)", x.table(t, 4), 0);
        }
        edge("3, PERILS: itself, if it comes back", four + "ref a k to b k follow refuse;ref b k to c k follow refuse;"
                + "ref c k to a k follow refuse;ref d k to d k follow refuse;");
        int[] rings = {7, 7, 7, 8};
        for (int t = 0; t < 4; t++) {
            d.is("table(" + t + ", 4)", x.table(t, 4), rings[t]);
        }
        edge("3, PERILS: by a ring of four, told from its end", four + "ref a k to d k follow refuse;"
                + "ref d k to c k follow refuse;ref c k to b k follow refuse;ref b k to a k follow refuse;");
        for (int t = 0; t < 4; t++) {
            d.is("table(" + t + ", 4)", x.table(t, 4), 15);
        }
        edge("3, PERILS: itself, not if it does not come back", four + "ref a k to b k follow refuse;"
                + "ref b k to c k follow refuse;ref c k to b k follow refuse;");
        d.is("table(0, 4)", x.table(0, 4), 0);
        d.is("table(1, 4)", x.table(1, 4), 7);
        d.is("table(2, 4)", x.table(2, 4), 7);
    }

    static void ordered(int... due) {
        d.is("order()", x.order(), due.length);
        for (int k = 0; k < due.length; k++) {
            d.is("orderAt(" + k + ")", x.orderAt(k), due[k]);
        }
        d.is("orderAt behind the last", x.orderAt(due.length), NONE);
    }

    static void order() {
        String four = "table a k;table b k;table c k;table d k;key a k;key b k;key c k;key d k;";
        edge("3, ORDER: without REFS by number", four);
        ordered(0, 1, 2, 3);
        edge("3, ORDER: each refers to none behind it", four + "ref a k to b k clear clear;ref b k to c k clear clear;"
                + "ref c k to d k clear clear;");
        ordered(3, 2, 1, 0);
        edge("3, ORDER: of like ones the first: the least number at each place", four + "ref a k to d k clear clear;"
                + "ref b k to c k clear clear;");
        ordered(2, 1, 3, 0);
        edge("3, ORDER: the least number at each place, as soon as it can be", four + "ref b k to d k clear clear;"
                + "ref a k to c k clear clear;");
        ordered(2, 0, 3, 1);
        edge("3, ORDER: to itself it may", four + "ref a k to a k clear clear;ref c k to c k clear clear;");
        ordered(0, 1, 2, 3);
        edge("3, ORDER: on a ring there is none", four + "ref a k to b k clear clear;ref b k to a k clear clear;");
        d.is("order()", x.order(), NONE);
        edge("3, ORDER: on a ring of four there is none", four + "ref a k to b k clear clear;ref b k to c k clear clear;"
                + "ref c k to d k clear clear;ref d k to a k clear clear;");
        d.is("order()", x.order(), NONE);
    }

    static void meanIs(int c, int above, int below) {
        d.is("mean(0, " + c + ", 0)", x.mean(0, c, 0), above);
        d.is("mean(0, " + c + ", 1)", x.mean(0, c, 1), below);
    }

    static void mean() {
        edge("3, MEAN: what its ROWS have there, in all, by how many have one", "table t a b c d;table u a;");
        rows("insert t 1 none 99 0;insert t 2 none none 0;insert u 50;insert t none 6 99 none;insert t 4 none none 0;");
        meanIs(0, 7, 3);
        meanIs(1, 6, 1);
        edge("3, MEAN: of ROWS that there are", ONE);
        rows("insert t 1;insert t 3;insert t 9;delete t if a = 9;");
        meanIs(0, 2, 1);
        d.does("delete t if a = 1", 1);
        meanIs(0, 3, 1);
        edge("3: fractions in least terms", "table t a b c d;");
        rows("insert t 1 6 99 0;insert t 2 0 99 0;insert t 3 6 99 0;insert t 4 6 99 0;");
        meanIs(0, 5, 2);
        meanIs(1, 9, 2);
        meanIs(2, 99, 1);
        meanIs(3, 0, 1);
        edge("3: fractions in least terms, of 40 ROWS of 99", ONE);
        d.fill(40);
        d.does("set t a 99", 40);
        meanIs(0, 99, 1);
        d.does("delete t", 40);
        d.fill(39);
        d.does("insert t 8", 1);
        meanIs(0, 281, 40);
    }

    static void tagIs(int row, String due) {
        d.is("tag(" + row + ")", x.tag(row), due.length());
        for (int i = 0; i < due.length(); i++) {
            d.is("byteAt(" + i + ") of " + due, x.byteAt(i), due.charAt(i));
        }
        d.is("byteAt behind " + due, x.byteAt(due.length()), NONE);
    }

    static void tag() {
        edge("3, TAG: NAME, a blank, its number, then for each COL a blank and its VALUE as digits, or '-'",
                "table azazaza a b c d;table q z;");
        rows("insert azazaza 0 9 10 99;insert q none;insert azazaza none none none none;");
        tagIs(0, "azazaza 0 0 9 10 99");
        tagIs(1, "q 1 -");
        tagIs(2, "azazaza 2 - - - -");
        rows("insert q 1;".repeat(30));
        tagIs(9, "q 9 1");
        tagIs(10, "q 10 1");
        edge("3, TAG: of the last ROW there can be", "table azazaza a b c d;");
        for (int i = 0; i < 2; i++) {
            rows("insert azazaza 1 1 1 1;".repeat(16));
            rows("insert azazaza 1 1 1 1;".repeat(16));
            rows("insert azazaza 1 1 1 1;".repeat(8) + "delete azazaza;");
        }
        rows("insert azazaza 10 99 98 97;".repeat(14));
        rows("insert azazaza 10 99 98 97;".repeat(5));
        tagIs(98, "azazaza 98 10 99 98 97");
        d.is("tag(99)", x.tag(99), NONE);
    }

    /** The draws of the document once more, by long numbers that do not wrap. */
    static final class Dice {
        long x;

        Dice(int seed) {
            x = seed & 0xffffffffL;
        }

        int draw(int n) {
            x = x * 1103515245L + 12345L & 0xffffffffL;
            return (int) ((x >> 8) % n);
        }
    }

    /** ROWS of the TABLES 'table t a b;table u c;' as DRAWN: number, TABLE, VALUES. */
    static int drawOn(List<int[]> rows, Dice dice, int made) {
        int act = dice.draw(6);
        int t = dice.draw(2);
        int cols = 2 - t;
        if (act < 3) {
            int[] row = {made, t, 0, 0};
            for (int c = 0; c < cols; c++) {
                int v = dice.draw(5);
                row[2 + c] = v == 4 ? NONE : v;
            }
            rows.add(row);
            return made + 1;
        }
        if (act < 5) {
            int c = dice.draw(cols);
            int v = dice.draw(4);
            int w = act == 4 ? dice.draw(4) : NONE;
            for (int i = rows.size() - 1; i >= 0; i--) {
                int[] row = rows.get(i);
                if (row[1] == t && row[2 + c] == v) {
                    if (act == 3) {
                        rows.remove(i);
                    } else {
                        row[2 + c] = w;
                    }
                }
            }
        }
        return made;
    }

    static void drawnAs(List<int[]> rows, int made) {
        d.is("now(0)", x.now(0), rows.size());
        d.is("now(1)", x.now(1), made);
        for (int[] row : rows) {
            d.is("tableOf(" + row[0] + ")", x.tableOf(row[0]), row[1]);
            d.cells(row[0], row[1] == 0 ? new int[] {row[2], row[3]} : new int[] {row[2]});
        }
    }

    static void drawnOnce() {
        int[] acts = new int[6];
        int[] odd = {0, -1, 1, Integer.MAX_VALUE, Integer.MIN_VALUE, 1 << 30, -12345};
        for (int i = 0; i < 120; i++) {
            int seed = i < odd.length ? odd[i] : i * 77777777;
            Dice first = new Dice(seed);
            int act = first.draw(6);
            acts[act]++;
            edge("3, DRAWN by the seed " + seed + ": a draw of 6: " + act, "table t a b;table u c;");
            rows("insert t 0 1;insert t 2 3;insert t 1 none;insert t none 0;insert u 0;insert u 1;insert u 2;insert u 3;"
                    + "insert u 9;");
            List<int[]> due = new ArrayList<>();
            int[][] put = {{0, 0, 0, 1}, {1, 0, 2, 3}, {2, 0, 1, -1}, {3, 0, -1, 0}, {4, 1, 0, 0}, {5, 1, 1, 0}, {6, 1, 2,
                    0}, {7, 1, 3, 0}, {8, 1, 9, 0}};
            due.addAll(List.of(put));
            int made = drawOn(due, new Dice(seed), 9);
            d.is("drawn(1, " + seed + ")", x.drawn(1, seed), 1);
            drawnAs(due, made);
            d.is("now(2)", x.now(2), act == 5 ? 1 : 0);
        }
        for (int act = 0; act < 6; act++) {
            d.so("some seed drew " + act, acts[act] > 0, true);
        }
    }

    /** A seed that draws an act on one TABLE of one COL, and then, behind so many draws more, the next act. */
    static int seedOf(int act, int between, int next) {
        for (int seed = 1; seed < 100000; seed++) {
            Dice dice = new Dice(seed);
            boolean as = dice.draw(6) == act;
            for (int i = 0; i < between; i++) {
                dice.draw(1);
            }
            if (as && dice.draw(6) == next) {
                return seed;
            }
        }
        return 0;
    }

    static int seedOf(int act) {
        return seedOf(act, 9, 0);
    }

    static void drawnOften() {
        for (int seed = 1; seed < 40; seed++) {
            edge("3, DRAWN: one x for all of n: seed " + seed, "table t a b;table u c;");
            List<int[]> due = new ArrayList<>();
            Dice dice = new Dice(seed * 99991);
            int made = 0;
            int n = seed % 20 + 1;
            for (int i = 0; i < n; i++) {
                Dice ahead = new Dice((int) dice.x);
                if (ahead.draw(6) == 5) {
                    dice.draw(6);
                    dice.draw(2);
                } else {
                    made = drawOn(due, dice, made);
                }
            }
            d.is("drawn(" + n + ")", x.drawn(n, seed * 99991), n);
            drawnAs(due, made);
        }
        edge("3, DRAWN: no TABLES: nothing is drawn", "table t a;");
        d.schema("", 0);
        d.is("drawn(40, 5)", x.drawn(40, 5), 0);
        d.is("now(2)", x.now(2), 0);
        edge("3, DRAWN: 5: a transaction BEGINS, or, if one is on, it is COMMITTED", ONE);
        d.is("drawn", x.drawn(1, seedOf(5)), 1);
        d.is("now(2)", x.now(2), 1);
        rows("insert t 8;");
        d.is("drawn", x.drawn(1, seedOf(5)), 1);
        d.is("now(2)", x.now(2), 0);
        d.is("now(0)", x.now(0), 1);
        d.is("drawn of two", x.drawn(2, seedOf(5, 1, 5)), 2);
        d.is("now(2)", x.now(2), 0);
        edge("3, DRAWN: 5: or else goes BACK (one, too)", ONE + "check t a < 5 late;");
        rows("insert t 1;begin;insert t 9;set t a 2 if a = 1;");
        d.is("drawn", x.drawn(1, seedOf(5)), 1);
        d.is("now(2)", x.now(2), 0);
        d.is("now(0)", x.now(0), 1);
        d.is("now(1)", x.now(1), 2);
        d.cells(0, 1);
        edge("3, DRAWN: each, if it can be", ONE + "check t a > 90;need t a;");
        d.is("drawn", x.drawn(1, seedOf(0)), 0);
        d.is("now(1)", x.now(1), 0);
        d.is("a deletion that finds nothing is done", x.drawn(1, seedOf(3)), 1);
        d.is("a change that finds nothing is done", x.drawn(1, seedOf(4)), 1);
        d.is("a beginning behind what could not be", x.drawn(2, seedOf(1, 2, 5)), 1);
        d.is("now(2)", x.now(2), 1);
    }

    static void newSchema() {
        edge("3: a new SCHEMA: no ROWS, no transaction, no SENTENCE; nothing can be undone", ONE);
        rows("insert t 1;begin;insert t 2;");
        d.sentence("row < 9", 1);
        d.schema(ONE, 1);
        d.is("now(0)", x.now(0), 0);
        d.is("now(1)", x.now(1), 0);
        d.is("now(2)", x.now(2), 0);
        d.is("rows(0)", x.rows(0), 0);
        d.is("tableOf(0)", x.tableOf(0), NONE);
        d.is("said(-1)", x.said(-1), NONE);
        d.is("undo()", x.undo(), NONE);
        d.is("back()", x.back(), 1);
        edge("3: a new SCHEMA: an empty one, too", ONE);
        rows("insert t 1;begin;");
        d.sentence("bare", 1);
        d.schema("", 0);
        d.is("count(0)", x.count(0), 0);
        d.is("now(0)", x.now(0), 0);
        d.is("now(2)", x.now(2), 0);
        d.is("said(-1)", x.said(-1), NONE);
        edge("3: a new SCHEMA: what other calls told last stays", "table t a r;key t a;ref t r to t a follow refuse;");
        rows("insert t 1 none;insert t 2 1;");
        d.is("order()", x.order(), 1);
        d.is("tag(1)", x.tag(1), 7);
        d.book(0, "insert t 1 1;", 0);
        d.would("insert t 5 6", -1003);
        d.schema("table u b;", 1);
        d.judged(3, 0, 0, 0);
        d.violated(0, 3, 0, 2);
        d.is("told(0)", x.told(0), 2);
        d.is("told(2)", x.told(2), 2);
        d.is("byteAt(0)", x.byteAt(0), 't');
        d.is("byteAt(6)", x.byteAt(6), '1');
        d.is("orderAt(0)", x.orderAt(0), 0);
        edge("3: a new SCHEMA: what was to go stays told", "table t a r;key t a;ref t r to t a follow refuse;");
        rows("insert t 1 none;insert t 2 1;");
        d.would("delete t if a = 1", 2);
        d.schema("", 0);
        d.judged(0, 1, 2, 0);
        d.is("goes(1)", x.goes(1), 1);
        d.is("steps(1)", x.steps(1), 1);
        edge("3: a call that throws changes nothing", ONE);
        rows("insert t 1;");
        d.put("insert t 2");
        for (int i = 0; i < 3; i++) {
            int call = i;
            d.none("a call that throws", () -> call == 0 ? d.x.cell(7, 7) : call == 1 ? d.x.col(7, 7, 7) : d.x.mean(7, 7,
                    7));
        }
        d.is("count(4)", x.count(4), 10);
        d.is("statement()", x.statement(), 1);
        d.is("now(0)", x.now(0), 2);
    }
}
