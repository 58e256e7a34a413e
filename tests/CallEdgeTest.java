/** Promises 1 to 38: each sentence that names a bound or an edge, by a test of its own that names the promise. */
public final class CallEdgeTest {
    static final int NONE = -1;
    static final int LOW = Integer.MIN_VALUE;
    static final int HIGH = Integer.MAX_VALUE;
    static final String ONE = "table t a;";
    static final String CHAIN = "table t k r;key t k;ref t r to t k follow follow;";

    static final boolean[] NAMED = new boolean[39];

    static Due d;
    static FollowingRefs x;

    static void edge(int promise, String sentence) {
        NAMED[promise] = true;
        d = new Due();
        d.promise = "Promise " + promise + ", " + sentence;
        x = d.x;
    }

    /** With a SCHEMA and a BOOK that is lived. */
    static void edge(int promise, String sentence, String schema, String book) {
        edge(promise, sentence);
        d.put(schema);
        d.so("a SCHEMA: " + schema, x.schema() > 0, true);
        d.book(1, book, NONE);
    }

    interface Asked {
        int ask(int n);
    }

    static void noneOf(String call, Asked asked, int... numbers) {
        for (int n : numbers) {
            d.is(call + " of " + n, asked.ask(n), NONE);
        }
    }

    static void throwsOf(String call, Asked asked, int... numbers) {
        for (int n : numbers) {
            d.none(call + " of " + n, () -> asked.ask(n));
        }
    }

    public static void main(String[] args) {
        newObject();
        feed();
        end();
        schema();
        fault();
        statement();
        would();
        judged();
        goes();
        steps();
        violated();
        begin();
        commit();
        back();
        undo();
        undoOfEach();
        now();
        rows();
        row();
        tableOf();
        cell();
        refers();
        referred();
        table();
        col();
        ref();
        order();
        orderAt();
        mean();
        tag();
        byteAt();
        drawn();
        book();
        bookLives();
        told();
        sentence();
        said();
        saidOfParts();
        saidJoined();
        image();
        restore();
        wentLast();
        count();
        manyCalls();
        for (int promise = 1; promise < NAMED.length; promise++) {
            d.so("promise " + promise + " has a test", NAMED[promise], true);
        }
        Due.close("CallEdgeTest");
    }

    static void newObject() {
        edge(1, "a SCHEMA without TABLES");
        for (int what = 0; what < 4; what++) {
            d.is("count(" + what + ")", x.count(what), 0);
            d.is("now(" + what + ")", x.now(what), 0);
        }
        noneOf("rows", t -> x.rows(t), 0);
        noneOf("table", what -> x.table(0, what), 0, 4);
        noneOf("ref", what -> x.ref(0, what), 0);
        throwsOf("col", what -> x.col(0, 0, what), 0);
        edge(1, "an empty tape");
        d.is("count(4)", x.count(4), 0);
        d.so("end(1)", x.end(1), false);
        d.is("schema()", x.schema(), 0);
        edge(1, "nothing was judged, told, kept");
        noneOf("judged", what -> x.judged(what), 0, 1, 2, 3);
        noneOf("told", what -> x.told(what), 0, 1, 2, 3);
        d.is("undo()", x.undo(), NONE);
        d.so("restore(0)", x.restore(0), false);
        d.so("restore(1)", x.restore(1), false);
        edge(1, "a BOOK of no TABLE can be lived");
        d.book(1, "begin;commit;begin;back;", NONE);
        d.is("undo()", x.undo(), 0);
        edge(1, "NONE");
        d.is("NONE", FollowingRefs.NONE, -1);
    }

    static void feed() {
        edge(2, "twenty bytes come behind the tape, of each number the highest first");
        d.is("feed", x.feed(0x7461626c, 0x65207461, 0x62206120, 0x623b2020, 0x6e656564), 20);
        d.is("feed", x.feed(0x20746162, 0x20623b20, 0x20202020, 0x20202020, 0x20202020), 40);
        d.is("schema()", x.schema(), 2);
        d.is("col(0, 1, 1)", x.col(0, 1, 1), 1);
        edge(2, "bytes 128 to 255, of numbers below 0");
        for (int k = 0; k < 4; k++) {
            d.is("feed", x.feed(0x20202020, 0x20202020 ^ 0xa0 << 8 * k, 0x20202020, 0x20202020, 0x20202020), 20);
            d.is("schema()", x.schema(), -1 - (7 - k));
        }
        d.is("feed", x.feed(LOW, HIGH, -1, 0, 1), 20);
        d.is("schema()", x.schema(), -1);
        edge(2, "how many it has; NONE, and none come, if it would have more than 940");
        d.put(ONE);
        for (int i = 0; i < 46; i++) {
            d.is("feed", x.feed(0x20202020, 0x20202020, 0x20202020, 0x20202020, 0x20202020), 30 + 20 * i);
        }
        d.is("feed at 930", x.feed(0x20202020, 0x20202020, 0x20202020, 0x20202020, 0x20202020), NONE);
        d.is("count(4)", x.count(4), 930);
        d.so("end(921)", x.end(921), true);
        d.is("feed at 921", x.feed(-1, -1, -1, -1, -1), NONE);
        d.is("count(4)", x.count(4), 921);
        d.so("end(920)", x.end(920), true);
        d.is("feed at 920", x.feed(0x20202020, 0x20202020, 0x20202020, 0x20202020, 0x20202020), 940);
        d.is("feed at 940", x.feed(-1, -1, -1, -1, -1), NONE);
        d.is("count(4)", x.count(4), 940);
        d.so("end(900)", x.end(900), true);
        d.is("schema()", x.schema(), 1);
        d.is("feed behind a schema()", x.feed(0, 0, 0, 0, 0), 20);
    }

    static void end() {
        edge(3, "the tape has its first n bytes alone: true");
        d.put("table t a;need t a;");
        d.so("end(19)", x.end(19), true);
        d.is("count(4)", x.count(4), 19);
        d.so("end(10)", x.end(10), true);
        d.is("count(4)", x.count(4), 10);
        d.put("key t a;");
        d.is("schema()", x.schema(), 2);
        d.is("count(1)", x.count(1), 1);
        edge(3, "n 0");
        d.put("table t a;");
        d.so("end(0)", x.end(0), true);
        d.is("count(4)", x.count(4), 0);
        d.so("end(0) of an empty tape", x.end(0), true);
        d.is("schema()", x.schema(), 0);
        edge(3, "false, if it has not so many");
        d.put("table t a;");
        d.so("end(11)", x.end(11), false);
        d.so("end(HIGH)", x.end(HIGH), false);
        d.is("count(4)", x.count(4), 10);
        d.so("end(3)", x.end(3), true);
        d.so("end(4) of what was", x.end(4), false);
        edge(3, "false, if n is below 0");
        d.put("table t a;");
        d.so("end(-1)", x.end(-1), false);
        d.so("end(LOW)", x.end(LOW), false);
        d.is("schema()", x.schema(), 1);
    }

    static void schema() {
        edge(4, "the tape is empty then");
        d.schema(ONE, 1);
        d.is("count(4)", x.count(4), 0);
        edge(4, "the tape is empty then, with a FAULT, too");
        d.schema("table", 5, 1);
        d.is("count(4)", x.count(4), 0);
        edge(4, "how many LINES");
        d.schema("table t a;table u b;key t a;ref u b to t a clear clear;need u b;default u b 1;check u b < 5;", 7);
        edge(4, "-1 less the place of a FAULT: at 0, at 900");
        d.put("t");
        d.is("schema()", x.schema(), -1);
        d.put(Due.padded(ONE, 940));
        d.is("schema()", x.schema(), -901);
        edge(4, "a FAULT: it stays", CHAIN, "insert t 1 none;begin;insert t 2 1;");
        d.sentence("row > 0", 1);
        d.schema("table u b;key u b;need u c;", 25, 3);
        d.is("count(0)", x.count(0), 1);
        d.is("table(0, 0)", x.table(0, 0), 2);
        d.is("col(0, 1, 1)", x.col(0, 1, 1), 0);
        d.is("count(2)", x.count(2), 1);
        d.is("now(0)", x.now(0), 2);
        d.is("now(2)", x.now(2), 1);
        d.said(1);
        d.is("undo()", x.undo(), 0);
        edge(4, "what the SCHEMA was is no more", "table a x y z;table b w;key a x;need a y;default a y 7;check a x < 5;"
                + "ref b w to a x clear clear;", "");
        d.schema("table c v u;", 1);
        d.is("count(0)", x.count(0), 1);
        d.is("count(1)", x.count(1), 0);
        d.is("count(2)", x.count(2), 0);
        d.is("count(3)", x.count(3), 0);
        d.is("table(0, 0)", x.table(0, 0), 2);
        d.is("col(0, 1, 0)", x.col(0, 1, 0), NONE);
        d.is("col(0, 1, 1)", x.col(0, 1, 1), 0);
        d.does("insert c 9 none", 1);
        d.does("insert a 1 2 3", 7, 3);
    }

    static void fault() {
        edge(5, "0 ahead of any");
        d.is("fault()", x.fault(), 0);
        edge(5, "the kind of the FAULT of the latest schema()");
        d.schema("table t a a;", 10, 3);
        d.schema("table t a b c d e;", 16, 4);
        d.schema("table t a;default t a 100;", 22, 2);
        d.schema("table", 5, 1);
        edge(5, "0 without one", ONE, "insert t 1;");
        d.badStatement(2, "insert t ^100");
        d.does("insert t 1", 1);
        d.is("fault()", x.fault(), 0);
        d.badStatement(3, "insert ^u 1");
        d.would("insert t 1", 1);
        d.is("fault()", x.fault(), 0);
        d.badBook(1, "begin^");
        d.book(0, "begin;", NONE);
        d.is("fault()", x.fault(), 0);
        d.badSentence(1, "(bare^");
        d.sentence("bare", 1);
        d.is("fault()", x.fault(), 0);
        d.badSentence(3, "^zz");
        d.schema(ONE, 1);
        d.is("fault()", x.fault(), 0);
        edge(5, "0 for what is refused, for a BOOK that is WRONG", ONE + "need t a;", "insert t 1;");
        d.badStatement(3, "insert ^u 1");
        d.does("insert t none", -1001);
        d.is("fault()", x.fault(), 0);
        d.badStatement(3, "insert ^u 1");
        d.book(1, "commit;", 0);
        d.is("fault()", x.fault(), 0);
        edge(5, "a book() of -1000 leaves it", ONE, "");
        d.badSentence(3, "^zz");
        d.put("begin");
        d.is("book(2)", x.book(2), -1000);
        d.is("fault()", x.fault(), 3);
        edge(5, "other calls leave it", ONE, "");
        d.badBook(1, "begin^");
        d.is("begin()", x.begin(), 0);
        d.is("drawn(3, 3)", x.drawn(3, 3) > 0 ? 1 : 0, 1);
        d.is("back()", x.back() >> 1, 0);
        d.is("undo()", x.undo() < 0 ? 0 : 1, 1);
        d.so("image(0)", x.image(0), true);
        d.so("restore(0)", x.restore(0), true);
        d.is("fault()", x.fault(), 1);
    }

    static void statement() {
        edge(6, "the tape is empty then, with a FAULT, and refused, too", ONE + "need t a;", "");
        for (String text : new String[] {"insert t 1", "insert t", "insert t none"}) {
            d.put(text);
            d.so("statement() of " + text, x.statement() == 1, text.equals("insert t 1"));
            d.is("count(4)", x.count(4), 0);
        }
        edge(6, "how many ROWS it TOUCHED: 0, 1, 40", ONE, "");
        d.does("delete t", 0);
        d.does("insert t 7", 1);
        d.fill(39);
        d.does("set t a 8", 40);
        d.does("delete t", 40);
        edge(6, "-2 less the place of a FAULT: at 0, at 200", ONE, "");
        d.put("begin");
        d.is("statement()", x.statement(), -2);
        d.put(Due.padded("insert t 1", 201));
        d.is("statement()", x.statement(), -202);
        d.put("insert t none 1");
        d.is("statement()", x.statement(), -16);
        d.is("nothing was done", x.now(1), 0);
        edge(6, "-1000 less why it is refused", "table t a r;need t a;key t a;ref t r to t a clear follow;check t a < 50;",
                "insert t 1 1;");
        d.does("insert t none none", -1001);
        d.does("insert t 1 none", -1002);
        d.does("insert t 2 3", -1003);
        d.does("insert t 50 none", -1004);
        d.does("set t a 2 r none", -1005);
        d.is("nothing was done", x.now(1), 1);
        d.cells(0, 1, 1);
        edge(6, "-1000 less why it is refused: 6", ONE, "");
        d.fill(40);
        d.does("insert t 1", -1006);
        d.is("nothing was done", x.now(1), 40);
        edge(6, "it is done, in a transaction, too", ONE, "begin;");
        d.does("insert t 1", 1);
        d.does("set t a 2", 1);
        d.cells(0, 2);
    }

    static void would() {
        edge(7, "it is judged alone: nothing is changed", CHAIN, "insert t 1 none;insert t 2 1;");
        d.would("insert t 3 none", 1);
        d.would("delete t if k = 1", 2);
        d.would("set t k 5 if k = 1", 2);
        d.is("now(0)", x.now(0), 2);
        d.is("now(1)", x.now(1), 2);
        d.cells(0, 1, NONE);
        d.cells(1, 2, 1);
        d.is("undo() of the BOOK alone", x.undo(), 0);
        edge(7, "told likewise", "table t a r;need t a;key t a;ref t r to t a clear follow;check t a < 50;",
                "insert t 1 1;");
        d.would("insert t none none", -1001);
        d.would("insert t 1 none", -1002);
        d.would("insert t 2 3", -1003);
        d.would("insert t 50 none", -1004);
        d.would("set t a 2 r none", -1005);
        d.would("insert t 5 5", 1);
        d.would("set t a 1", 0);
        d.would("insert t 5", -2 - 10);
        d.is("fault()", x.fault(), 1);
        d.would("", -2);
        d.is("count(4)", x.count(4), 0);
        edge(7, "told likewise: 6", ONE, "");
        d.fill(40);
        d.would("insert t 1", -1006);
        edge(7, "LATE ones are none, while a transaction is on", ONE + "check t a < 5 late;", "");
        d.would("insert t 7", -1004);
        d.is("begin()", x.begin(), 0);
        d.would("insert t 7", 1);
        d.is("now(0)", x.now(0), 0);
    }

    static void judged() {
        edge(8, "NONE: ahead of any", ONE, "insert t 1;");
        noneOf("judged", what -> x.judged(what), 0, 1, 2, 3);
        d.badStatement(1, "insert^");
        noneOf("judged behind a FAULT", what -> x.judged(what), 0, 1, 2, 3);
        edge(8, "NONE: another what", ONE, "");
        d.would("insert t 1", 1);
        noneOf("judged", what -> x.judged(what), -1, 4, LOW, HIGH);
        edge(8, "0 why it was refused (0: it was not)", ONE + "need t a;", "");
        d.does("insert t none", -1001);
        d.judged(1, 0, 0, 0);
        d.does("insert t 1", 1);
        d.judged(0, 0, 0, 0);
        edge(8, "1 ROWS that it found (inserting: 0)", ONE, "insert t 1;insert t 2;insert t 3;");
        d.would("set t a 3 if a > 1", 1);
        d.judged(0, 2, 0, 1);
        d.would("delete t", 3);
        d.judged(0, 3, 3, 0);
        d.would("delete t if a = 9", 0);
        d.judged(0, 0, 0, 0);
        d.does("insert t 4", 1);
        d.judged(0, 0, 0, 0);
        edge(8, "2 that were to go (by 5, too)", "table a k;table b k;table c r;key a k;key b k;"
                + "ref b k to a k follow refuse;"
                + "ref c r to a k clear refuse;ref c r to b k reset refuse;default c r 7;", "insert a 1;insert b 1;"
                        + "insert c 1;");
        d.does("delete a", -1005);
        d.judged(5, 1, 2, 0);
        edge(8, "2 that were to go, though it was refused", "table a k;table c r;key a k;ref c r to a k refuse refuse;",
                "insert a 1;insert a 2;insert c 1;");
        d.does("delete a", -1003);
        d.judged(3, 2, 2, 0);
        edge(8, "3 that were to have other VALUES than they had", ONE + "check t a < 9;", "insert t 1;insert t 2;"
                + "insert t 3;");
        d.would("set t a 2", 2);
        d.judged(0, 3, 0, 2);
        d.would("set t a 9", -1004);
        d.judged(4, 3, 0, 3);
        edge(8, "3 of those that were not to go", "table p k;table c r s;key p k;ref c r to p k clear refuse;"
                + "ref c s to p k follow refuse;",
                "insert p 1;insert c 1 1;insert c 1 none;insert c none 1;");
        d.would("delete p", 4);
        d.judged(0, 1, 3, 1);
        edge(8, "3 (0, if it was refused by 5)", CHAIN, "insert t 1 none;insert t 2 2;insert t 3 1;");
        d.does("set t k 7 r 8", -1005);
        d.judged(5, 3, 0, 0);
        edge(8, "a FAULT, other calls leave it", ONE, "insert t 1;begin;");
        d.would("delete t", 1);
        d.badStatement(1, "delete^");
        d.book(1, "insert t 5;delete t;insert t 6;", NONE);
        d.is("drawn(9, 9)", x.drawn(9, 9) > 0 ? 1 : 0, 1);
        d.is("undo()", x.undo() >= 0 ? 1 : 0, 1);
        d.so("image(0)", x.image(0), true);
        d.so("restore(0)", x.restore(0), true);
        d.judged(0, 1, 1, 0);
        d.is("goes(0)", x.goes(0), 0);
    }

    static void goes() {
        edge(9, "NONE: ahead of any", ONE, "insert t 1;");
        noneOf("goes", k -> x.goes(k), 0, -1);
        edge(9, "the k-th ROW (from 0, by number) that was to go by it", "table c r;table p k;key p k;"
                + "ref c r to p k follow refuse late;",
                "begin;insert p 9;insert c 1;insert p 1;insert c 9;insert c 1;");
        d.would("delete p if k = 1", 3);
        int[] due = {1, 2, 4};
        for (int k = 0; k < 3; k++) {
            d.is("goes(" + k + ")", x.goes(k), due[k]);
        }
        edge(9, "NONE: none such", ONE, "insert t 1;insert t 2;");
        d.would("delete t", 2);
        noneOf("goes", k -> x.goes(k), 2, 40, -1, LOW, HIGH);
        d.would("set t a 5", 2);
        noneOf("goes", k -> x.goes(k), 0, 1);
        d.would("delete t", 2);
        d.would("insert t 5", 1);
        noneOf("goes", k -> x.goes(k), 0, 1);
        edge(9, "40 ROWS", ONE, "");
        d.fill(40);
        d.would("delete t", 40);
        d.is("goes(39)", x.goes(39), 39);
        noneOf("goes", k -> x.goes(k), 40);
        d.does("delete t", 40);
        d.is("goes(0) behind it", x.goes(0), 0);
        d.would("delete t", 0);
        noneOf("goes", k -> x.goes(k), 0);
        edge(9, "though it was refused", "table p k;table c r;key p k;ref c r to p k refuse refuse;", "insert p 1;"
                + "insert c 1;");
        d.does("delete p", -1003);
        d.is("goes(0)", x.goes(0), 0);
        noneOf("goes", k -> x.goes(k), 1);
    }

    static void steps() {
        edge(10, "NONE: ahead of any", CHAIN, "insert t 1 none;");
        noneOf("steps", row -> x.steps(row), 0, -1);
        edge(10, "STEPS to a ROW by it", CHAIN, "insert t 1 none;insert t 2 1;insert t 3 none;");
        d.would("delete t if k = 1", 2);
        d.is("steps(0)", x.steps(0), 0);
        d.is("steps(1)", x.steps(1), 1);
        edge(10, "NONE: it was not to go", CHAIN, "insert t 1 none;insert t 2 1;insert t 3 none;");
        d.would("delete t if k < 3", 2);
        noneOf("steps", row -> x.steps(row), 2, 3, 99, -1, LOW, HIGH);
        d.would("set t k 9 if k = 1", 2);
        noneOf("steps", row -> x.steps(row), 0, 1, 2);
        d.would("delete t", 3);
        d.would("insert t 8 none", 1);
        noneOf("steps", row -> x.steps(row), 0, 1, 2, 3);
        edge(10, "of a ROW by its number, not by its place", CHAIN, "insert t 1 none;insert t 2 none;insert t 3 2;"
                + "delete t if k = 1;");
        d.does("delete t if k = 2", 2);
        d.is("steps(1)", x.steps(1), 0);
        d.is("steps(2)", x.steps(2), 1);
        noneOf("steps", row -> x.steps(row), 0);
    }

    static void noViolation(String when) {
        for (int what = 0; what < 3; what++) {
            d.is("violated(0, " + what + ") " + when, x.violated(0, what), NONE);
        }
    }

    static void violated() {
        edge(11, "NONE: ahead of any", ONE, "insert t 1;");
        noViolation("ahead");
        edge(11, "0 its kind, 1 the number of KEY, REF, CHECK (1: the COL), 2 the ROW",
                "table t a b;key t b;key t a;need t b;ref t b to t b clear clear;ref t b to t a clear clear;check t b > 1;"
                        + "check t a > 1;", "insert t 2 2;");
        d.does("insert t none none", -1001);
        d.violated(0, 1, 0, 1);
        d.violated(1, 1, 1, 1);
        d.does("insert t 2 3", -1002);
        d.violated(0, 2, 1, 1);
        d.violated(1, 3, 1, 1);
        d.does("insert t 1 2", -1002);
        d.violated(0, 2, 0, 1);
        d.violated(1, 4, 1, 1);
        edge(11, "NONE: none such", ONE + "need t a;", "");
        d.does("insert t none", -1001);
        noneOf("violated", k -> x.violated(k, 0), 1, -1, LOW, HIGH);
        noneOf("violated", what -> x.violated(0, what), -1, 3, LOW, HIGH);
        edge(11, "a statement() that was done has none", ONE + "need t a;", "");
        d.does("insert t none", -1001);
        d.does("insert t 1", 1);
        noViolation("behind it");
        edge(11, "a would() that is not refused has none", ONE + "need t a;", "");
        d.does("insert t none", -1001);
        d.would("insert t 1", 1);
        noViolation("behind it");
        edge(11, "a commit() that was done has none", ONE + "need t a;", "begin;");
        d.does("insert t none", -1001);
        d.is("commit()", x.commit(), 0);
        noViolation("behind it");
        edge(11, "none, if a commit() was 1", ONE + "need t a;", "");
        d.does("insert t none", -1001);
        d.is("commit()", x.commit(), 1);
        noViolation("behind it");
        edge(11, "none, if it was refused by 5", "table t k r;key t k;ref t r to t k refuse follow;", "insert t 1 1;");
        d.does("insert t 1 1", -1002);
        d.does("set t k 2 r 3", -1005);
        noViolation("by 5");
        edge(11, "none, if it was refused by 6", ONE + "need t a;", "");
        d.fill(40);
        d.does("set t a none", -1001);
        d.violated(39, 1, 0, 39);
        d.is("violated(40, 0)", x.violated(40, 0), NONE);
        d.does("insert t 1", -1006);
        noViolation("by 6");
        edge(11, "of a commit() LATE ones, too", ONE + "check t a < 5 late;", "begin;insert t 7;insert t 1;insert t 8;");
        d.is("commit()", x.commit(), 2);
        d.violated(0, 4, 0, 0);
        d.violated(1, 4, 0, 2);
        d.is("violated(2, 0)", x.violated(2, 0), NONE);
        edge(11, "LATE ones are none of these, while a transaction is on", ONE + "need t a;check t a < 5 late;", "begin;"
                + "insert t 7;");
        d.does("insert t none", -1001);
        d.violated(0, 1, 0, 1);
        d.is("violated(1, 0)", x.violated(1, 0), NONE);
        edge(11, "LATE ones are some of these, while none is on", ONE + "check t a < 7 late;check t a < 5;", "");
        d.does("insert t 8", -1004);
        d.violated(0, 4, 0, 0);
        d.violated(1, 4, 1, 0);
        edge(11, "that had no FAULT; other calls leave it", ONE + "need t a;", "insert t 1;");
        d.does("insert t none", -1001);
        d.badStatement(1, "insert^");
        d.is("begin()", x.begin(), 0);
        d.is("back()", x.back(), 0);
        d.is("undo()", x.undo(), 2);
        d.is("now(3)", x.now(3), 0);
        d.book(1, "insert t 5;insert t 6;", NONE);
        d.is("drawn(9, 4)", x.drawn(9, 4) > 0 ? 1 : 0, 1);
        d.violated(0, 1, 0, 1);
        edge(11, "80 VIOLATIONS at once", "table t a b c d;" + "need t a;need t b;need t c;need t d;", "");
        for (int i = 0; i < 4; i++) {
            d.book(1, "insert t 1 1 1 1;".repeat(10), NONE);
        }
        d.does("set t a none b none", -1001);
        d.violated(79, 1, 1, 39);
        d.is("violated(80, 0)", x.violated(80, 0), NONE);
    }

    static void begin() {
        edge(12, "a transaction BEGINS: 0", ONE, "");
        d.is("begin()", x.begin(), 0);
        d.is("now(2)", x.now(2), 1);
        edge(12, "or why not: 1", ONE, "begin;");
        d.is("begin()", x.begin(), 1);
        d.is("now(2)", x.now(2), 1);
        d.is("undo() of the BOOK alone", x.undo(), 0);
        edge(12, "again behind a commit(), a back()", ONE, "");
        d.is("begin()", x.begin(), 0);
        d.is("commit()", x.commit(), 0);
        d.is("begin()", x.begin(), 0);
        d.is("back()", x.back(), 0);
        d.is("begin()", x.begin(), 0);
        edge(12, "of a SCHEMA without TABLES");
        d.is("begin()", x.begin(), 0);
        d.is("now(2)", x.now(2), 1);
    }

    static void commit() {
        edge(13, "it is COMMITTED: 0", ONE, "begin;insert t 1;");
        d.is("commit()", x.commit(), 0);
        d.is("now(2)", x.now(2), 0);
        d.is("back()", x.back(), 1);
        d.cells(0, 1);
        edge(13, "or why not: 1", ONE, "");
        d.is("commit()", x.commit(), 1);
        d.is("undo()", x.undo(), NONE);
        edge(13, "or why not: 2", ONE + "check t a < 5 late;", "begin;insert t 6;");
        d.is("commit()", x.commit(), 2);
        d.is("now(2)", x.now(2), 1);
        d.is("now(0)", x.now(0), 1);
        d.is("commit()", x.commit(), 2);
        d.is("back()", x.back(), 0);
        d.is("undo() of back() and the BOOK", x.undo(), 1);
    }

    static void back() {
        edge(14, "it goes BACK: 0", ONE, "insert t 1;begin;set t a 2;");
        d.is("back()", x.back(), 0);
        d.cells(0, 1);
        edge(14, "or why not: 1", ONE, "insert t 1;");
        d.is("back()", x.back(), 1);
        d.cells(0, 1);
        d.is("undo() of the BOOK alone", x.undo(), 0);
        edge(14, "to the one that began last", ONE, "begin;insert t 1;commit;begin;insert t 2;");
        d.is("back()", x.back(), 0);
        d.is("now(0)", x.now(0), 1);
        d.is("now(1)", x.now(1), 2);
    }

    static void undo() {
        edge(15, "NONE: none is", ONE, "");
        d.is("undo()", x.undo(), NONE);
        d.does("insert t 1", 1);
        d.is("undo()", x.undo(), 0);
        d.is("undo()", x.undo(), NONE);
        d.is("now(0)", x.now(0), 0);
        edge(15, "how many more can be (8 at most are kept)", ONE, "");
        for (int i = 0; i < 8; i++) {
            d.does("insert t " + i, 1);
        }
        for (int left = 7; left >= 0; left--) {
            d.is("undo()", x.undo(), left);
            d.is("now(0)", x.now(0), left);
        }
        d.is("undo()", x.undo(), NONE);
        edge(15, "8 at most are kept: of nine the first can't be undone", ONE, "");
        for (int i = 0; i < 9; i++) {
            d.does("insert t " + i, 1);
        }
        for (int left = 7; left >= 0; left--) {
            d.is("undo()", x.undo(), left);
            d.is("now(0)", x.now(0), left + 1);
            d.cells(left, left);
        }
        d.is("undo()", x.undo(), NONE);
        d.is("now(0)", x.now(0), 1);
        edge(15, "8 at most are kept: what is done behind an undo() is kept again", ONE, "");
        for (int i = 0; i < 9; i++) {
            d.does("insert t " + i, 1);
        }
        d.is("undo()", x.undo(), 7);
        d.does("set t a 50", 8);
        d.is("undo()", x.undo(), 7);
        d.cells(7, 7);
        d.is("now(0)", x.now(0), 8);
        edge(15, "what was undone is no more", ONE, "");
        d.does("insert t 1", 1);
        d.does("insert t 2", 1);
        d.is("undo()", x.undo(), 1);
        d.does("insert t 3", 1);
        d.is("undo()", x.undo(), 1);
        d.cells(0, 1);
        d.is("undo()", x.undo(), 0);
    }

    static void undoOfEach() {
        edge(15, "of statement()", CHAIN, "");
        d.does("insert t 1 none", 1);
        d.does("insert t 2 1", 1);
        d.does("delete t if k = 1", 2);
        d.is("undo()", x.undo(), 2);
        d.is("refers(1, 0)", x.refers(1, 0), 0);
        edge(15, "of statement() that was done, though it changed nothing", ONE, "");
        d.does("delete t", 0);
        d.is("undo()", x.undo(), 0);
        edge(15, "of statement() that was done: not of one that was refused, of a FAULT, of would()", ONE + "need t a;", "");
        d.does("insert t none", -1001);
        d.badStatement(1, "insert^");
        d.would("insert t 1", 1);
        d.is("undo()", x.undo(), NONE);
        edge(15, "of begin()", ONE, "");
        d.is("begin()", x.begin(), 0);
        d.is("begin()", x.begin(), 1);
        d.is("undo()", x.undo(), 0);
        d.is("now(2)", x.now(2), 0);
        edge(15, "of commit()", ONE + "check t a < 5 late;", "begin;insert t 6;");
        d.is("commit()", x.commit(), 2);
        d.does("set t a 4", 1);
        d.is("commit()", x.commit(), 0);
        d.is("commit()", x.commit(), 1);
        d.is("undo()", x.undo(), 2);
        d.is("now(2)", x.now(2), 1);
        d.is("undo()", x.undo(), 1);
        d.cells(0, 6);
        d.is("back()", x.back(), 0);
        d.is("now(0)", x.now(0), 0);
        edge(15, "of back()", ONE, "begin;insert t 6;");
        d.is("back()", x.back(), 0);
        d.is("back()", x.back(), 1);
        d.is("undo()", x.undo(), 1);
        d.is("now(2)", x.now(2), 1);
        d.cells(0, 6);
        edge(15, "of drawn() above 0, as one", ONE, "");
        int done = x.drawn(40, 7);
        d.so("drawn(40, 7) above 1", done > 1, true);
        d.is("undo()", x.undo(), 0);
        d.is("now(1)", x.now(1), 0);
        d.is("now(2)", x.now(2), 0);
        edge(15, "of drawn() above 0: all is as it was ahead", ONE, "insert t 50;begin;insert t 60;");
        d.so("drawn(40, 8) above 1", x.drawn(40, 8) > 1, true);
        d.is("undo()", x.undo(), 1);
        d.is("now(0)", x.now(0), 2);
        d.is("now(1)", x.now(1), 2);
        d.is("now(2)", x.now(2), 1);
        d.cells(0, 50);
        d.cells(1, 60);
        edge(15, "of drawn() of 1", ONE, "");
        d.is("drawn(1)", x.drawn(1, RowEdgeTest.seedOf(0)), 1);
        d.is("undo()", x.undo(), 0);
        d.is("now(1)", x.now(1), 0);
        edge(15, "of drawn() above 0: not of 0, of NONE", ONE + "need t a;check t a > 50;", "");
        d.is("drawn(1)", x.drawn(1, RowEdgeTest.seedOf(0)), 0);
        d.is("drawn(0)", x.drawn(0, 7), NONE);
        d.is("drawn(41)", x.drawn(41, 7), NONE);
        d.is("undo()", x.undo(), NONE);
        edge(15, "of a BOOK of which some LINE was lived, as one", ONE, "");
        d.book(1, "insert t 1;begin;insert t 2;back;insert t 3;", NONE);
        d.book(1, "delete t;commit;insert t 4;", 1);
        d.is("undo()", x.undo(), 1);
        d.is("now(0)", x.now(0), 2);
        d.is("undo()", x.undo(), 0);
        d.is("now(1)", x.now(1), 0);
        edge(15, "of a BOOK of which some LINE was lived: not of others", ONE, "");
        d.book(1, "", NONE);
        d.book(1, "commit;insert t 1;", 0);
        d.book(0, "insert t 1;", NONE);
        d.badBook(1, "insert t 1;insert t^");
        d.put("insert t 1;");
        d.is("book(3)", x.book(3), -1000);
        d.is("undo()", x.undo(), NONE);
    }

    static void now() {
        edge(16, "0 ROWS, 1 how many were inserted so far", ONE, "insert t 1;insert t 2;delete t if a = 1;begin;insert t 3;"
                + "back;");
        d.is("now(0)", x.now(0), 1);
        d.is("now(1)", x.now(1), 3);
        edge(16, "2 a transaction is on (1, 0)", ONE, "");
        d.is("now(2)", x.now(2), 0);
        d.is("begin()", x.begin(), 0);
        d.is("now(2)", x.now(2), 1);
        edge(16, "3 VIOLATIONS now (LATE ones, too)", "table t a r;key t a;ref t r to t a clear clear late;"
                + "check t a < 5 late;", "begin;insert t 7 8;insert t 9 none;");
        d.is("now(3)", x.now(3), 3);
        d.does("delete t if a = 9", 1);
        d.is("now(3)", x.now(3), 2);
        d.is("back()", x.back(), 0);
        d.is("now(3)", x.now(3), 0);
        edge(16, "NONE for another what", ONE, "insert t 1;");
        noneOf("now", what -> x.now(what), -1, 4, LOW, HIGH);
    }

    static void rows() {
        edge(17, "ROWS of a TABLE", "table t a;table u a;table v a;", "insert u 1;insert v 2;insert u 3;delete v;");
        d.is("rows(0)", x.rows(0), 0);
        d.is("rows(1)", x.rows(1), 2);
        d.is("rows(2)", x.rows(2), 0);
        edge(17, "NONE: no such one", "table t a;table u a;", "insert u 1;");
        noneOf("rows", t -> x.rows(t), 2, 3, 4, -1, LOW, HIGH);
    }

    static void row() {
        edge(18, "the k-th ROW (from 0, by number) of a TABLE", "table t a;table u a;", "insert u 1;insert t 2;insert u 3;"
                + "insert u 4;delete u if a = 1;");
        d.is("row(0, 0)", x.row(0, 0), 1);
        d.is("row(1, 0)", x.row(1, 0), 2);
        d.is("row(1, 1)", x.row(1, 1), 3);
        edge(18, "NONE: none such", "table t a;table u a;", "insert u 1;insert u 2;");
        noneOf("row", k -> x.row(1, k), 2, 3, 40, -1, LOW, HIGH);
        noneOf("row", k -> x.row(0, k), 0);
        edge(18, "NONE: no such TABLE", "table t a;table u a;", "insert u 1;");
        noneOf("row", t -> x.row(t, 0), 2, 4, -1, LOW, HIGH);
    }

    static void tableOf() {
        edge(19, "the TABLE of a ROW", "table t a;table u a;", "insert u 1;insert t 2;");
        d.is("tableOf(0)", x.tableOf(0), 1);
        d.is("tableOf(1)", x.tableOf(1), 0);
        edge(19, "NONE: no such one", "table t a;table u a;", "insert u 1;insert t 2;delete u;");
        noneOf("tableOf", row -> x.tableOf(row), 0, 2, 99, -1, LOW, HIGH);
    }

    static void cell() {
        edge(20, "what a ROW has in a COL (NONE: none)", "table t a b c d;", "insert t 0 none 99 1;");
        d.cells(0, 0, NONE, 99, 1);
        edge(20, "NoSuchElementException: no such ROW", "table t a b;", "insert t 1 2;insert t 3 4;delete t if a = 1;");
        throwsOf("cell", row -> x.cell(row, 0), 0, 2, 98, -1, LOW, HIGH);
        edge(20, "NoSuchElementException: no such COL", "table t a b;table u a b c d;", "insert t 1 2;insert u 1 2 3 4;");
        throwsOf("cell", c -> x.cell(0, c), 2, 3, 4, -1, LOW, HIGH);
        throwsOf("cell", c -> x.cell(1, c), 4, -1);
        d.cells(1, 1, 2, 3, 4);
    }

    static void refers() {
        String three = "table t k r;table u r s;key t k;ref u r to t k clear clear;ref t r to t k clear clear;"
                + "ref u s to t k clear clear;";
        edge(21, "to which ROW one refers by a REF", three, "insert t 1 1;insert t 2 1;insert u 2 1;");
        d.is("refers(0, 1)", x.refers(0, 1), 0);
        d.is("refers(1, 1)", x.refers(1, 1), 0);
        d.is("refers(2, 0)", x.refers(2, 0), 1);
        d.is("refers(2, 2)", x.refers(2, 2), 0);
        edge(21, "NONE: to none", three, "insert t 1 none;insert u none none;");
        d.is("refers(0, 1)", x.refers(0, 1), NONE);
        d.is("refers(1, 0)", x.refers(1, 0), NONE);
        edge(21, "NONE: to none, though it should", "table t k r;key t k;ref t r to t k clear clear late;", "begin;"
                + "insert t 1 2;");
        d.is("refers(0, 0)", x.refers(0, 0), NONE);
        edge(21, "NONE: no such ones", three, "insert t 1 1;insert t 2 2;delete t if k = 2;");
        noneOf("refers", row -> x.refers(row, 1), 1, 2, 99, -1, LOW, HIGH);
        noneOf("refers", f -> x.refers(0, f), 3, 5, 6, -1, LOW, HIGH);
        edge(21, "NONE: a REF of another TABLE", three, "insert t 1 1;insert u 1 1;");
        d.is("refers(0, 0)", x.refers(0, 0), NONE);
        d.is("refers(0, 2)", x.refers(0, 2), NONE);
        d.is("refers(1, 1)", x.refers(1, 1), NONE);
    }

    static void referred() {
        String two = "table t k r s;key t k;ref t r to t k clear clear;ref t s to t k clear clear;";
        edge(22, "how many ROWS refer to one (by each REF that does)", two, "insert t 1 none none;insert t 2 1 1;"
                + "insert t 3 1 2;insert t 4 4 4;");
        d.is("referred(0)", x.referred(0), 3);
        d.is("referred(1)", x.referred(1), 1);
        d.is("referred(2)", x.referred(2), 0);
        d.is("referred(3), to itself", x.referred(3), 2);
        edge(22, "NONE: no such one", two, "insert t 1 none none;insert t 2 none none;delete t if k = 1;");
        noneOf("referred", row -> x.referred(row), 0, 2, 99, -1, LOW, HIGH);
    }

    static void table() {
        String two = "table t a b;table u a b c;key u b;key t a;key u b c;key t b;ref t a to u b clear clear;"
                + "ref u a b to u b c follow clear;ref u a to t a follow clear;";
        edge(23, "0 COLS, 1 KEYS, 2 REFS that it has, 3 that tell it, as bits, 4 PERILS, as bits", two, "");
        int[][] due = {{2, 10, 1, 4, 2}, {3, 5, 6, 3, 2}};
        for (int t = 0; t < 2; t++) {
            for (int what = 0; what < 5; what++) {
                d.is("table(" + t + ", " + what + ")", x.table(t, what), due[t][what]);
            }
        }
        edge(23, "the highest bits", "table t a;" + "key t a;".repeat(6) + "ref t a to t a clear clear;".repeat(6), "");
        d.is("table(0, 1)", x.table(0, 1), 63);
        d.is("table(0, 2)", x.table(0, 2), 63);
        d.is("table(0, 3)", x.table(0, 3), 63);
        d.is("col(0, 0, 2)", x.col(0, 0, 2), 63);
        d.is("col(0, 0, 3)", x.col(0, 0, 3), 63);
        edge(23, "NONE: no such TABLE", two, "");
        noneOf("table", t -> x.table(t, 0), 2, 3, 4, -1, LOW, HIGH);
        edge(23, "NONE: no such what", two, "");
        noneOf("table", what -> x.table(0, what), 5, -1, LOW, HIGH);
    }

    static void col() {
        String two = "table t a b c;table u a;key t a b;key u a;key t b;default t b 0;default u a 99;need t b;need t c;"
                + "ref t c to u a clear clear;ref u a to u a clear clear;ref t c b to t a b clear clear;";
        edge(24, "0 its default (NONE)", two, "");
        d.is("col(0, 0, 0)", x.col(0, 0, 0), NONE);
        d.is("col(0, 1, 0)", x.col(0, 1, 0), 0);
        d.is("col(1, 0, 0)", x.col(1, 0, 0), 99);
        edge(24, "1 'need' is told of it (or it is in a KEY; 1, 0)", two, "");
        for (int c = 0; c < 3; c++) {
            d.is("col(0, " + c + ", 1)", x.col(0, c, 1), 1);
        }
        d.schema("table t a b;table u a b;key u a;need t b;", 4);
        d.is("col(0, 0, 1)", x.col(0, 0, 1), 0);
        d.is("col(0, 1, 1)", x.col(0, 1, 1), 1);
        d.is("col(1, 0, 1)", x.col(1, 0, 1), 1);
        d.is("col(1, 1, 1)", x.col(1, 1, 1), 0);
        edge(24, "2 KEYS, as bits", two, "");
        int[] keys = {1, 5, 0};
        int[] refs = {0, 4, 5};
        for (int c = 0; c < 3; c++) {
            d.is("col(0, " + c + ", 2)", x.col(0, c, 2), keys[c]);
            d.is("col(0, " + c + ", 3)", x.col(0, c, 3), refs[c]);
        }
        d.is("col(1, 0, 2)", x.col(1, 0, 2), 2);
        edge(24, "3 REFS (of its own TABLE) in which it is, as bits", two, "");
        d.is("col(1, 0, 3)", x.col(1, 0, 3), 2);
        edge(24, "NoSuchElementException: no such TABLE", two, "");
        throwsOf("col", t -> x.col(t, 0, 0), 2, 4, -1, LOW, HIGH);
        edge(24, "NoSuchElementException: no such COL", two, "");
        throwsOf("col", c -> x.col(0, c, 0), 3, 4, -1, LOW, HIGH);
        throwsOf("col", c -> x.col(1, c, 1), 1, 2, -1);
        edge(24, "NoSuchElementException: no such what", two, "");
        throwsOf("col", what -> x.col(0, 0, what), 4, -1, LOW, HIGH);
    }

    static void ref() {
        String two = "table t a b;table u c e;key u e c;key u c;ref t a to u c reset clear late;"
                + "ref t a b to u e c follow reset full;ref u c to u c refuse follow full late;";
        edge(25, "0 its TABLE, 1 the other one, 2 the KEY, 3 its first ON, 4 the second, 5 'full', 6 'late' (1, 0 each)",
                two, "");
        int[][] due = {{0, 1, 1, 3, 2, 0, 1}, {0, 1, 0, 1, 3, 1, 0}, {1, 1, 1, 0, 1, 1, 1}};
        for (int f = 0; f < 3; f++) {
            for (int what = 0; what < 7; what++) {
                d.is("ref(" + f + ", " + what + ")", x.ref(f, what), due[f][what]);
            }
        }
        edge(25, "NONE: no such REF", two, "");
        noneOf("ref", f -> x.ref(f, 0), 3, 5, 6, -1, LOW, HIGH);
        edge(25, "NONE: no such what", two, "");
        noneOf("ref", what -> x.ref(0, what), 7, 8, -1, LOW, HIGH);
        noneOf("ref", what -> x.ref(2, what), 7, -1);
    }

    static void order() {
        String ring = "table a k;table b k;key a k;key b k;ref a k to b k clear clear;ref b k to a k clear clear;";
        edge(26, "how many", "table a k;table b k;table c k;", "");
        d.is("order()", x.order(), 3);
        edge(26, "NONE: there is none", ring, "");
        d.is("order()", x.order(), NONE);
        edge(26, "without TABLES: 0");
        d.is("order()", x.order(), 0);
    }

    static void orderAt() {
        String ring = "table a k;table b k;key a k;key b k;ref a k to b k clear clear;ref b k to a k clear clear;";
        edge(27, "NONE: ahead of any", "table a k;table b k;", "");
        noneOf("orderAt", k -> x.orderAt(k), 0, 1, -1);
        edge(27, "the k-th TABLE of it", "table a k;table b k;key b k;ref a k to b k clear clear;", "");
        d.is("order()", x.order(), 2);
        d.is("orderAt(0)", x.orderAt(0), 1);
        d.is("orderAt(1)", x.orderAt(1), 0);
        edge(27, "NONE: none such", "table a k;table b k;table c k;table d k;", "");
        d.is("order()", x.order(), 4);
        noneOf("orderAt", k -> x.orderAt(k), 4, 8, 32, -1, LOW, HIGH);
        edge(27, "by the latest order() that was not NONE", "table a k;table b k;key b k;ref a k to b k clear clear;", "");
        d.is("order()", x.order(), 2);
        d.put(ring);
        d.is("schema()", x.schema(), 6);
        d.is("order()", x.order(), NONE);
        d.is("orderAt(0)", x.orderAt(0), 1);
        d.is("orderAt(1)", x.orderAt(1), 0);
        d.schema("table a k;", 1);
        d.is("orderAt(1) ahead of order()", x.orderAt(1), 0);
        d.is("order()", x.order(), 1);
        d.is("orderAt(0)", x.orderAt(0), 0);
        noneOf("orderAt", k -> x.orderAt(k), 1);
        d.schema("", 0);
        d.is("order()", x.order(), 0);
        noneOf("orderAt", k -> x.orderAt(k), 0);
        edge(27, "a ring ahead of any", ring, "");
        d.is("order()", x.order(), NONE);
        noneOf("orderAt", k -> x.orderAt(k), 0);
    }

    static void mean() {
        String two = "table t a b;table u a;";
        edge(28, "MEAN of a COL", two, "insert t 1 none;insert t 4 none;insert u 9;insert t none none;");
        d.is("mean(0, 0, 0)", x.mean(0, 0, 0), 5);
        d.is("mean(0, 0, 1)", x.mean(0, 0, 1), 2);
        d.is("mean(1, 0, 0)", x.mean(1, 0, 0), 9);
        d.is("mean(1, 0, 1)", x.mean(1, 0, 1), 1);
        edge(28, "NoSuchElementException: no ROW has one there", two, "insert t 1 none;insert t 4 none;");
        throwsOf("mean", what -> x.mean(0, 1, what), 0, 1);
        throwsOf("mean", what -> x.mean(1, 0, what), 0, 1);
        edge(28, "NoSuchElementException: no such TABLE", two, "insert t 1 1;insert u 1;");
        throwsOf("mean", t -> x.mean(t, 0, 0), 2, 4, -1, LOW, HIGH);
        edge(28, "NoSuchElementException: no such COL", two, "insert t 1 1;insert u 1;");
        throwsOf("mean", c -> x.mean(0, c, 0), 2, 4, -1, LOW, HIGH);
        throwsOf("mean", c -> x.mean(1, c, 1), 1, 2, -1);
        edge(28, "NoSuchElementException: no such what", two, "insert t 1 1;insert u 1;");
        throwsOf("mean", what -> x.mean(0, 0, what), 2, -1, LOW, HIGH);
    }

    static void tag() {
        edge(29, "TAG of a ROW: how many bytes", "table t a;table quarter a b c d;", "insert t none;"
                + "insert quarter 10 1 none 99;");
        d.is("tag(0)", x.tag(0), 5);
        d.is("tag(1)", x.tag(1), 19);
        edge(29, "NONE: no such one", ONE, "insert t 1;insert t 2;delete t if a = 1;");
        noneOf("tag", row -> x.tag(row), 0, 2, 99, -1, LOW, HIGH);
    }

    static void byteAt() {
        edge(30, "NONE: ahead of any", ONE, "insert t 1;");
        noneOf("byteAt", i -> x.byteAt(i), 0, -1);
        edge(30, "byte i of the latest TAG", ONE, "insert t 17;insert t none;");
        d.is("tag(0)", x.tag(0), 6);
        String due = "t 0 17";
        for (int i = 0; i < 6; i++) {
            d.is("byteAt(" + i + ")", x.byteAt(i), due.charAt(i));
        }
        d.is("tag(1)", x.tag(1), 5);
        d.is("byteAt(2)", x.byteAt(2), '1');
        d.is("byteAt(4)", x.byteAt(4), '-');
        edge(30, "NONE: none such", ONE, "insert t 17;insert t none;");
        d.is("tag(0)", x.tag(0), 6);
        noneOf("byteAt", i -> x.byteAt(i), 6, 24, -1, LOW, HIGH);
        d.is("tag(1)", x.tag(1), 5);
        noneOf("byteAt", i -> x.byteAt(i), 5);
        edge(30, "the latest TAG is as it was told", ONE, "insert t 17;");
        d.is("tag(0)", x.tag(0), 6);
        d.is("tag(7)", x.tag(7), NONE);
        d.does("delete t", 1);
        d.is("byteAt(5)", x.byteAt(5), '7');
    }

    static void drawn() {
        edge(31, "NONE: not as told", ONE, "");
        noneOf("drawn", n -> x.drawn(n, 1), 0, 41, -1, LOW, HIGH);
        d.is("now(1)", x.now(1), 0);
        edge(31, "NONE: not as told, without TABLES, too");
        noneOf("drawn", n -> x.drawn(n, 1), 0, 41);
        d.is("drawn(40, 1)", x.drawn(40, 1), 0);
        edge(31, "n times (1 to 40): how many were done", ONE, "");
        d.is("drawn(1, 1)", x.drawn(1, 1), 1);
        d.is("drawn(40, 1)", x.drawn(40, 1), 40);
        edge(31, "how many were done: those that can't be are not counted", ONE + "need t a;check t a > 8;check t a < 6;",
                "");
        RowEdgeTest.Dice dice = new RowEdgeTest.Dice(5);
        int due = 0;
        for (int i = 0; i < 40; i++) {
            int act = dice.draw(6);
            dice.draw(1);
            for (int more = act < 3 ? 1 : act == 3 ? 2 : act == 4 ? 3 : 0; more > 0; more--) {
                dice.draw(5);
            }
            due += act < 3 ? 0 : 1;
        }
        d.is("drawn(40, 5)", x.drawn(40, 5), due);
        d.is("now(1)", x.now(1), 0);
        edge(31, "6 there is no room", ONE, "");
        d.fill(40);
        d.is("an insertion", x.drawn(1, RowEdgeTest.seedOf(0)), 0);
        d.is("now(0)", x.now(0), 40);
    }

    static void book() {
        edge(32, "judged, all staying as it is (lives 0)", ONE + "check t a < 50 late;", "insert t 1;");
        d.book(0, "begin;insert t 60;set t a 5;commit;delete t;", NONE);
        d.cells(0, 1);
        d.is("now(0)", x.now(0), 1);
        d.is("now(1)", x.now(1), 1);
        d.is("now(2)", x.now(2), 0);
        d.book(0, "begin;insert t 60;commit;", 2);
        d.is("now(2)", x.now(2), 0);
        d.is("begin()", x.begin(), 0);
        d.book(0, "insert t 60;back;begin;", NONE);
        d.is("now(2)", x.now(2), 1);
        d.does("insert t 70", 1);
        d.is("back() to what began", x.back(), 0);
        d.is("now(0)", x.now(0), 1);
        edge(32, "lived as far as it is not WRONG (1)", ONE + "key t a;", "");
        d.book(1, "insert t 1;insert t 2;insert t 1;insert t 3;", 2);
        d.is("now(0)", x.now(0), 2);
        d.is("now(1)", x.now(1), 2);
        edge(32, "the LINE that is WRONG (from 0)", ONE + "key t a;", "");
        d.book(0, "back;", 0);
        d.book(1, "back;insert t 1;", 0);
        d.is("now(0)", x.now(0), 0);
        d.book(1, "insert t 1;".repeat(2) + "begin;", 1);
        d.book(0, "delete t;".repeat(39) + "back;", 39);
        edge(32, "NONE: none is WRONG", ONE, "");
        d.book(0, "", NONE);
        d.book(1, "", NONE);
        d.book(1, "delete t;".repeat(40), NONE);
        edge(32, "-2 less the place of a FAULT: at 0, at 400", ONE, "insert t 1;");
        d.put("table");
        d.is("book(0)", x.book(0), -2);
        d.put(Due.padded("begin;", 401));
        d.is("book(1)", x.book(1), -402);
        d.badBook(1, "delete t;begin;delete ^;");
        d.is("nothing was lived", x.now(0), 1);
        d.is("count(4)", x.count(4), 0);
        edge(32, "-1000: another lives (the tape stays)", ONE, "");
        d.put("insert t 1;");
        for (int lives : new int[] {2, -1, LOW, HIGH}) {
            d.is("book(" + lives + ")", x.book(lives), -1000);
            d.is("count(4)", x.count(4), 11);
        }
        d.is("book(1)", x.book(1), NONE);
        d.is("now(0)", x.now(0), 1);
    }

    static void bookLives() {
        edge(32, "the tape is empty then", ONE, "");
        d.put("begin;back;");
        d.is("book(0)", x.book(0), NONE);
        d.is("count(4)", x.count(4), 0);
        edge(32, "each LINE is judged by what those ahead of it did", CHAIN, "");
        d.book(1, "insert t 1 none;insert t 2 1;set t k 5 if k = 1;insert t 3 5;delete t if k = 5;insert t 5 none;", NONE);
        d.is("now(0)", x.now(0), 1);
        d.is("row(0, 0)", x.row(0, 0), 3);
        edge(32, "a transaction may be on ahead, and behind", ONE + "check t a < 5 late;", "");
        d.is("begin()", x.begin(), 0);
        d.book(1, "insert t 7;delete t;commit;begin;insert t 8;", NONE);
        d.is("now(2)", x.now(2), 1);
        d.book(1, "commit;", 0);
        d.book(1, "set t a 4;commit;", NONE);
        d.is("now(2)", x.now(2), 0);
        edge(32, "6 is counted with what was inserted ahead", ONE, "");
        d.fill(30);
        d.book(0, "insert t 1;".repeat(10) + "delete t if a = 1;" + "insert t 1;", NONE);
        d.book(1, "insert t 1;".repeat(12), 10);
        d.is("told(0)", x.told(0), 6);
        d.is("now(0)", x.now(0), 40);
    }

    static void tells(int why, int ahead, int rows, int violations) {
        d.is("told(0)", x.told(0), why);
        d.is("told(1)", x.told(1), ahead);
        d.is("told(2)", x.told(2), rows);
        d.is("told(3)", x.told(3), violations);
    }

    static void told() {
        edge(33, "NONE: ahead of any");
        noneOf("told", what -> x.told(what), 0, 1, 2, 3, 4);
        d.schema(ONE, 1);
        d.badBook(1, "begin^");
        noneOf("told behind a FAULT", what -> x.told(what), 0, 1, 2, 3);
        d.is("book(2)", x.book(2), -1000);
        noneOf("told behind -1000", what -> x.told(what), 0, 1, 2, 3);
        edge(33, "NONE: another what", ONE, "insert t 1;");
        noneOf("told", what -> x.told(what), -1, 4, LOW, HIGH);
        String all = "table t a r;need t a;key t a;ref t r to t a clear follow;check t a < 50;check t a < 40 late;";
        edge(33, "0 why it was WRONG (0: it was not)", all, "insert t 1 1;");
        tells(0, 1, 1, 0);
        String[] wrong = {"insert t none none;", "insert t 1 none;", "insert t 2 3;", "insert t 50 none;",
                "set t a 2 r none;"};
        for (int why = 1; why <= 5; why++) {
            edge(33, "0 why it was WRONG: " + why + " a STATEMENT", all, "insert t 1 1;");
            d.book(0, "insert t 9 none;" + wrong[why - 1], 1);
            tells(why, 1, 2, 0);
        }
        edge(33, "0 why it was WRONG: 6 a STATEMENT", ONE, "");
        d.fill(40);
        d.book(0, "insert t 1;", 0);
        tells(6, 0, 40, 0);
        edge(33, "0 why it was WRONG: 11 beginning", ONE, "");
        d.book(0, "begin;begin;", 1);
        tells(11, 1, 0, 0);
        edge(33, "0 why it was WRONG: 21, 22 committing", all, "");
        d.book(0, "commit;", 0);
        tells(21, 0, 0, 0);
        d.book(1, "begin;insert t 45 none;commit;", 2);
        tells(22, 2, 1, 1);
        d.book(0, "begin;", 0);
        tells(11, 0, 1, 1);
        edge(33, "0 why it was WRONG: 31 going BACK", ONE, "");
        d.book(0, "insert t 1;back;", 1);
        tells(31, 1, 1, 0);
        edge(33, "1 LINES ahead of it (without one: all)", ONE, "");
        d.book(0, "", NONE);
        tells(0, 0, 0, 0);
        d.book(0, "delete t;".repeat(40), NONE);
        tells(0, 40, 0, 0);
        edge(33, "2 ROWS then, 3 VIOLATIONS then (LATE ones, too)", all, "insert t 1 none;");
        d.book(0, "begin;insert t 41 none;insert t 42 none;", NONE);
        tells(0, 3, 3, 2);
        d.is("now(0)", x.now(0), 1);
        d.is("now(3)", x.now(3), 0);
        edge(33, "of the latest book() that had no FAULT (and was not -1000)", ONE, "insert t 1;insert t 2;");
        d.badBook(3, "delete ^u;");
        d.is("book(5)", x.book(5), -1000);
        d.does("delete t", 2);
        d.so("image(0)", x.image(0), true);
        d.so("restore(0)", x.restore(0), true);
        tells(0, 2, 2, 0);
        edge(33, "what a book() told is no statement()'s", all, "insert t 1 none;");
        d.does("insert t 1 none", -1002);
        d.book(0, "insert t none none;", 0);
        d.violated(0, 2, 0, 1);
        d.judged(2, 0, 0, 0);
    }

    static void sentence() {
        edge(34, "how many ONES (each not, bracket and other one)", ONE, "");
        d.sentence("bare", 1);
        d.sentence("not bare", 2);
        d.sentence("(bare)", 2);
        d.sentence("not (not bare or known and broken) and in t or row < 5 or a = 3", 9);
        edge(34, "the tape is empty then, with a FAULT, too", ONE, "");
        d.sentence("bare", 1);
        d.is("count(4)", x.count(4), 0);
        d.sentence("bares", 0, 3);
        d.is("count(4)", x.count(4), 0);
        edge(34, "-1 less the place of a FAULT: at 0, at 200", ONE, "");
        d.put("table");
        d.is("sentence()", x.sentence(), -1);
        d.put(Due.padded("bare", 201));
        d.is("sentence()", x.sentence(), -201);
        edge(34, "a FAULT: it stays", ONE, "insert t 1;insert t 2;");
        d.badSentence(1, "row = 0 or^");
        d.is("said(-1) without one", x.said(-1), NONE);
        d.sentence("row = 1", 1);
        d.badSentence(1, "row = 0 or^");
        d.badSentence(4, "not ".repeat(8) + "^bare");
        d.said(1);
        edge(34, "without TABLES");
        d.sentence("bare or row < 5", 2);
        d.is("said(-1)", x.said(-1), 0);
        d.badSentence(3, "in ^t");
        d.badSentence(3, "^a < 5");
    }

    static void said() {
        edge(35, "NONE: there is no SENTENCE", ONE, "insert t 1;");
        noneOf("said", k -> x.said(k), -1, 0, 1, -2);
        edge(35, "how many (k NONE), or the k-th (by number)", "table t a;table u a;", "insert u 1;insert t 1;insert u 2;"
                + "insert u 1;delete u if a = 2;");
        d.sentence("a = 1", 1);
        d.is("said(-1)", x.said(-1), 3);
        d.is("said(0)", x.said(0), 0);
        d.is("said(1)", x.said(1), 1);
        d.is("said(2)", x.said(2), 3);
        edge(35, "NONE: none such", ONE, "insert t 1;insert t none;");
        d.sentence("bare", 1);
        noneOf("said", k -> x.said(k), 1, 2, 40, -2, LOW, HIGH);
        edge(35, "of none: 0", ONE, "insert t 1;");
        d.sentence("bare", 1);
        d.is("said(-1)", x.said(-1), 0);
        noneOf("said", k -> x.said(k), 0);
        d.does("delete t", 1);
        d.sentence("not bare", 2);
        d.is("said(-1) without ROWS", x.said(-1), 0);
        edge(35, "of 40", ONE, "");
        d.fill(40);
        d.sentence("row > 0 or row = 0", 2);
        d.is("said(-1)", x.said(-1), 40);
        d.is("said(39)", x.said(39), 39);
        noneOf("said", k -> x.said(k), 40);
        edge(35, "of what is so when it is asked", ONE, "insert t 1;");
        d.sentence("a = 2", 1);
        d.said();
        d.does("set t a 2", 1);
        d.said(0);
        d.is("undo()", x.undo(), 1);
        d.said();
    }

    static void saidOfParts() {
        edge(35, "'bare' (some COL of it has none)", "table t a b;table u a;", "insert t 1 2;insert t none 2;"
                + "insert t 1 none;insert t none none;insert u 0;insert u none;");
        d.sentence("bare", 1);
        d.said(1, 2, 3, 5);
        edge(35, "'known' (some ROW refers to it)", "table t k r;table u r;key t k;ref t r to t k clear clear;"
                + "ref u r to t k clear clear;",
                "insert t 1 1;insert t 2 1;insert t 3 none;insert t 4 none;insert u 4;");
        d.sentence("known", 1);
        d.said(0, 3);
        edge(35, "'broken' (it violates something now), LATE ones, too", "table t k r;key t k;"
                + "ref t r to t k clear clear late;check t k < 5 late;", "begin;insert t 1 1;insert t 2 8;insert t 7 none;"
                + "insert t 4 1;");
        d.sentence("broken", 1);
        d.said(1, 2);
        d.does("insert t 8 none", 1);
        d.said(2, 4);
        d.is("back()", x.back(), 0);
        d.said();
        edge(35, "'in' TABLE", "table t a;table u a;", "insert u 1;insert t 1;insert u 2;");
        d.sentence("in u", 1);
        d.said(0, 2);
        d.sentence("in t", 1);
        d.said(1);
        edge(35, "'row' SIGN NUMBER: its number", ONE, "insert t 9;insert t 9;insert t 9;insert t 9;delete t if a = 1;");
        d.sentence("row < 2", 1);
        d.said(0, 1);
        d.sentence("row = 2", 1);
        d.said(2);
        d.sentence("row > 2", 1);
        d.said(3);
        d.sentence("row > 99", 1);
        d.said();
        edge(35, "COL of some TABLE SIGN NUMBER", "table t a b;table u b;table v c a;", "insert t 5 1;insert u 5;"
                + "insert v 1 5;insert t 6 5;insert v 5 4;");
        d.sentence("a = 5", 1);
        d.said(0, 2);
        d.sentence("b < 5", 1);
        d.said(0);
        d.sentence("b > 4", 1);
        d.said(1, 3);
        d.sentence("c > 0", 1);
        d.said(2, 4);
        edge(35, "not so, if its TABLE has no such one", "table t a;table u b;", "insert t 0;insert u 0;");
        d.sentence("a < 99", 1);
        d.said(0);
        d.sentence("b = 0", 1);
        d.said(1);
        d.sentence("not b = 0", 2);
        d.said(0);
        edge(35, "not so, if it has none there", ONE, "insert t none;insert t 0;");
        d.sentence("a < 99", 1);
        d.said(1);
        d.sentence("not a < 99", 2);
        d.said(0);
        d.sentence("a = 0 or a > 0", 2);
        d.said(1);
    }

    static void saidJoined() {
        String eight = "insert t 0 0 0;insert t 0 0 1;insert t 0 1 0;insert t 0 1 1;insert t 1 0 0;insert t 1 0 1;"
                + "insert t 1 1 0;insert t 1 1 1;";
        String[] texts = {"a=1 or b=1 and c=1", "a=1 and b=1 or c=1", "(a=1 or b=1) and c=1", "a=1 and (b=1 or c=1)",
                "not a=1 and b=1",
            "not (a=1 and b=1)", "not a=1 or b=1", "not not a=1", "a=1 and b=1 and c=1", "a=1 or b=1 or c=1",
                    "not (a=1 or not (b=1 and not c=1))"};
        int[][] due = {{3, 4, 5, 6, 7}, {1, 3, 5, 6, 7}, {3, 5, 7}, {5, 6, 7}, {2, 3}, {0, 1, 2, 3, 4, 5}, {0, 1, 2, 3, 6,
                7}, {4, 5, 6, 7}, {7}, {1, 2, 3, 4, 5, 6, 7}, {2}};
        for (int i = 0; i < texts.length; i++) {
            edge(35, "joined: " + texts[i], "table t a b c;", eight);
            d.so("sentence", d.put(texts[i]).x.sentence() > 0, true);
            d.said(due[i]);
        }
        edge(35, "joined: each ONE by its own SIGN, TABLE", "table t a;table u a;", "insert t 0;insert t 1;insert u none;"
                + "insert t 3;insert t 4;insert u 5;");
        d.sentence("row < 1 or row > 4 or row = 3", 3);
        d.said(0, 3, 5);
        d.sentence("bare or in t and a > 3", 3);
        d.said(2, 4);
        d.sentence("not in t and not a < 5", 4);
        d.said(2, 5);
        edge(35, "joined: 20 ONES side by side", ONE, "");
        StringBuilder some = new StringBuilder("a=0");
        StringBuilder but = new StringBuilder("not a=0");
        for (int v = 1; v < 20; v++) {
            some.append(" or a=").append(2 * v);
        }
        for (int v = 1; v < 10; v++) {
            but.append(" and not a=").append(2 * v);
        }
        for (int v = 0; v < 40; v += 20) {
            StringBuilder rows = new StringBuilder();
            for (int i = v; i < v + 20; i++) {
                rows.append("insert t ").append(i).append(';');
            }
            d.book(1, rows.toString(), NONE);
        }
        d.sentence(some.toString(), 20);
        d.is("said(-1)", x.said(-1), 20);
        for (int k = 0; k < 20; k++) {
            d.is("said(" + k + ")", x.said(k), 2 * k);
        }
        d.sentence(but.toString(), 20);
        d.is("said(-1)", x.said(-1), 30);
        d.is("said(0)", x.said(0), 1);
        edge(35, "joined: each SENTENCE for itself", ONE, "insert t 0;insert t 1;");
        for (int i = 0; i < 20; i++) {
            d.sentence("a = 1 and not a = 0 or a = 1 and not a = 0", 6);
            d.said(1);
        }
        edge(35, "joined: 20 ONES, 8 within one another", ONE, "insert t 0;insert t 1;");
        d.sentence("not ".repeat(7) + "a = 1 and " + "(".repeat(7) + "a = 0" + ")".repeat(7) + " or a = 1 and a = 0 or row > 5 and bare",
                20);
        d.said(0);
    }

    static void image() {
        edge(36, "false: no such one", ONE, "");
        for (int k : new int[] {2, -1, LOW, HIGH}) {
            d.so("image(" + k + ")", x.image(k), false);
            d.so("restore(" + k + ")", x.restore(k), false);
        }
        d.so("restore(0)", x.restore(0), false);
        edge(36, "kept in place k (0, 1): true", ONE, "insert t 1;");
        d.so("image(0)", x.image(0), true);
        d.does("set t a 2", 1);
        d.so("image(1)", x.image(1), true);
        d.does("set t a 3", 1);
        d.so("restore(0)", x.restore(0), true);
        d.cells(0, 1);
        d.so("restore(1)", x.restore(1), true);
        d.cells(0, 2);
        edge(36, "a later one takes its place", ONE, "insert t 1;");
        d.so("image(0)", x.image(0), true);
        d.does("insert t 2", 1);
        d.so("image(0)", x.image(0), true);
        d.does("delete t", 2);
        d.so("restore(0)", x.restore(0), true);
        d.is("now(0)", x.now(0), 2);
        edge(36, "nothing is changed: what can be undone stays", ONE, "insert t 1;");
        d.put("begin;");
        d.so("image(0)", x.image(0), true);
        d.is("count(4)", x.count(4), 6);
        d.is("undo()", x.undo(), 0);
    }

    static void restore() {
        edge(37, "false: no such one, or nothing is kept there", ONE, "insert t 1;");
        d.so("restore(0)", x.restore(0), false);
        d.so("restore(1)", x.restore(1), false);
        d.so("image(0)", x.image(0), true);
        d.so("restore(1)", x.restore(1), false);
        d.is("undo() still can be", x.undo(), 0);
        edge(37, "SCHEMA, all that is so and the SENTENCE are as kept", CHAIN, "insert t 1 none;begin;insert t 2 1;"
                + "insert t 3 2;delete t if k = 3;");
        d.sentence("known", 1);
        d.so("image(1)", x.image(1), true);
        d.schema("table u b;", 1);
        d.does("insert u 5", 1);
        d.sentence("in u", 1);
        d.so("restore(1)", x.restore(1), true);
        d.is("count(2)", x.count(2), 1);
        d.is("table(0, 0)", x.table(0, 0), 2);
        d.is("now(0)", x.now(0), 2);
        d.is("now(1)", x.now(1), 3);
        d.is("now(2)", x.now(2), 1);
        d.said(0);
        d.is("back()", x.back(), 0);
        d.is("now(0)", x.now(0), 1);
        d.does("insert t 9 1", 1);
        d.is("row(0, 1)", x.row(0, 1), 3);
        edge(37, "no SENTENCE, no transaction, if none was kept", ONE, "");
        d.so("image(0)", x.image(0), true);
        d.sentence("bare", 1);
        d.is("begin()", x.begin(), 0);
        d.so("restore(0)", x.restore(0), true);
        d.is("said(-1)", x.said(-1), NONE);
        d.is("now(2)", x.now(2), 0);
        edge(37, "the tape stays", ONE, "");
        d.so("image(0)", x.image(0), true);
        d.put("insert t 5");
        d.so("restore(0)", x.restore(0), true);
        d.is("count(4)", x.count(4), 10);
        d.is("statement()", x.statement(), 1);
        edge(37, "what other calls told last stays", CHAIN + "table u a;", "insert t 1 none;");
        d.so("image(0)", x.image(0), true);
        d.does("insert t 2 1", 1);
        d.is("tag(1)", x.tag(1), 7);
        d.is("order()", x.order(), 2);
        d.book(0, "begin;commit;commit;", 2);
        d.does("delete t if k = 1", 2);
        d.badSentence(3, "^zz");
        d.so("restore(0)", x.restore(0), true);
        d.judged(0, 1, 2, 0);
        d.is("goes(1)", x.goes(1), 1);
        d.is("steps(1)", x.steps(1), 1);
        d.is("byteAt(6)", x.byteAt(6), '1');
        d.is("orderAt(1)", x.orderAt(1), 1);
        d.is("told(0)", x.told(0), 21);
        d.is("fault()", x.fault(), 3);
        edge(37, "nothing can be undone", ONE, "insert t 1;");
        d.so("image(0)", x.image(0), true);
        d.does("insert t 2", 1);
        d.so("restore(0)", x.restore(0), true);
        d.is("undo()", x.undo(), NONE);
        d.is("now(0)", x.now(0), 1);
        edge(37, "nothing can be undone, but what is done behind it", ONE, "insert t 1;");
        d.so("image(0)", x.image(0), true);
        d.so("restore(0)", x.restore(0), true);
        d.does("insert t 2", 1);
        d.is("undo()", x.undo(), 0);
        d.is("now(0)", x.now(0), 1);
        d.is("undo()", x.undo(), NONE);
        edge(37, "it is kept still, whatever is done behind it", ONE, "insert t 1;");
        d.so("image(0)", x.image(0), true);
        for (int i = 0; i < 3; i++) {
            d.so("restore(0)", x.restore(0), true);
            d.is("now(0)", x.now(0), 1);
            d.cells(0, 1);
            d.does("set t a 9", 1);
            d.does("insert t 5", 1);
        }
    }

    static void wentLast() {
        edge(19, "the ROW that went is none, though it was the last", "table t k r;key t k;ref t r to t k clear clear;",
                "insert t 1 none;insert t 2 1;insert t 3 1;delete t if k = 3;");
        int row = 2;
        noneOf("tableOf", n -> x.tableOf(n), row);
        noneOf("referred", n -> x.referred(n), row);
        noneOf("refers", n -> x.refers(n, 0), row);
        noneOf("tag", n -> x.tag(n), row);
        throwsOf("cell", n -> x.cell(n, 0), row);
        d.is("rows(0)", x.rows(0), 2);
        noneOf("row", k -> x.row(0, k), row);
        d.is("referred(0)", x.referred(0), 1);
        d.would("set t r 2", 2);
        d.judged(0, 2, 0, 2);
    }

    static void count() {
        edge(38, "0 TABLES, 1 KEYS, 2 REFS, 3 CHECKS", "table t a;table u b;table v a;key t a;key v a;"
                + "ref u b to t a clear clear;check t a < 5;check u b > 2;check u b < 9;check v a=1;", "");
        int[] due = {3, 2, 1, 4};
        for (int what = 0; what < 4; what++) {
            d.is("count(" + what + ")", x.count(what), due[what]);
        }
        edge(38, "4 bytes of the tape");
        d.is("count(4)", x.count(4), 0);
        d.put("abc");
        d.is("count(4)", x.count(4), 3);
        edge(38, "NONE for another what", ONE, "");
        noneOf("count", what -> x.count(what), -1, 5, LOW, HIGH);
    }

    static void manyCalls() {
        edge(6, "an object is used for 512 calls: the last ones, too");
        d.schema(ONE, 1);
        d.does("insert t 0", 1);
        // Each STATEMENT is four calls: count(4), feed(), end(), itself.
        for (int i = 1; i <= 124; i++) {
            d.does("set t a " + i % 100, 1);
        }
        d.is("undo()", x.undo(), 7);
        d.cells(0, 23);
    }
}
