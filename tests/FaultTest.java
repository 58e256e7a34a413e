/** FAULTS of SCHEMAS, STATEMENTS, BOOKS and SENTENCES: their kinds and places. */
public final class FaultTest {
    static Due d;

    static void fresh(String what) {
        d = new Due();
        d.promise = what;
    }

    public static void main(String[] args) {
        tokens();
        limits();
        tables();
        keysAndRefs();
        others();
        statements();
        conditions();
        books();
        sentences();
        Due.close("FaultTest");
    }

    static String repeated(String s, int n) {
        return s.repeat(n);
    }

    static void tokens() {
        fresh("TOKENS");
        d.schema("", 0);
        d.is("fault()", d.x.fault(), 0);
        d.schema(" \n ", 0);
        d.schema("table\nt a;key\n\nt  a ;", 2);
        d.schema("table t a;check t a<5;", 2);
        d.schema("table t a;check t a<b5;", 20, 1);
        d.schema("table t a;check t a<5b;", 20, 1);
        d.schema("table t a1;", 8, 1);
        d.schema("table t sevenwo;", 1);
        d.schema("table t eightwor;", 8, 1);
        d.schema("table t a;default t a 007;", 2);
        d.is("col(0, 0, 0)", d.x.col(0, 0, 0), 7);
        d.schema("table t a;default t a 0007;", 22, 1);
        d.schema("table t a;default t a 099;", 2);
        d.schema("table t a;default t a 100;", 22, 2);
        d.schema("table t\ta;", 7, 1);
        d.schema("table t a;.", 10, 1);
        d.schema("table T a;", 6, 1);
        d.schema("tabl\u00e9 t a;", 0, 1);
        d.schema("table t a\u0000;", 9, 1);
        d.schema("table t a:", 9, 1);
        d.schema("table t a   ", 12, 1);
        d.schema("table t a;  k", 12, 1);
        d.schema(";", 0, 1);
        d.schema("table t a;;", 10, 1);
        d.schema("7", 0, 1);
    }

    static void limits() {
        fresh("the most bytes");
        String short11 = "table t a;";
        d.schema(short11 + repeated(" ", 890), 1);
        d.schema(short11 + repeated(" ", 891), 900, 1);
        d.schema(short11 + repeated(" ", 885) + "need t a;", 900, 1);
        d.schema(short11 + repeated(" ", 888) + "nothing here", 898, 1);
        d.schema(short11 + repeated(" ", 880) + "need t a;", 2);
        d.schema(short11 + repeated(" ", 880) + "need t a ;", 2);
        d.schema(short11 + repeated(" ", 880) + "need t a  ;", 900, 1);
        d.schema(short11 + repeated(" ", 884) + "need b c;", 899, 3);
        d.schema("table t a" + repeated(" ", 931), 900, 1);
        fresh("the most bytes of other texts");
        d.schema("table t a;", 1);
        d.does("insert t 5" + repeated(" ", 190), 1);
        d.does("insert t 5" + repeated(" ", 191), 200, 1);
        d.does(repeated(" ", 190) + "insert t 5", 1);
        d.does(repeated(" ", 191) + "insert t 5", 200, 1);
        d.does(repeated(" ", 191) + "insert t 123", 200, 1);
        d.does(repeated(" ", 190) + "insert t 100", 199, 2);
        d.does(repeated(" ", 200) + "insert t 5", 200, 1);
        d.book(0, "begin;" + repeated(" ", 394), -1);
        d.book("begin;" + repeated(" ", 395), 400, 1);
        d.book("begin;" + repeated(" ", 390) + "back;", 400, 1);
        d.book("begin;" + repeated(" ", 390) + "bask;", 396, 1);
        d.sentence("bare" + repeated(" ", 196), 1);
        d.sentence("bare" + repeated(" ", 197), 200, 1);
        d.sentence(repeated(" ", 198) + "bare", 200, 1);
        d.sentence(repeated(" ", 198) + "bars", 198, 3);
    }

    static void tables() {
        fresh("table LINES");
        d.schema("table", 5, 1);
        d.schema("table;", 5, 1);
        d.schema("table t;", 7, 1);
        d.schema("table key a;", 6, 1);
        d.schema("table t row;", 8, 1);
        d.schema("table t a none;", 10, 1);
        d.schema("table t 5;", 8, 1);
        d.schema("table t t;", 1);
        d.schema("table t a b c d;", 1);
        d.schema("table t a b c d e;", 16, 4);
        d.schema("table t a b c d a;", 16, 3);
        d.schema("table t a b c d to;", 16, 1);
        d.schema("table t a b c d 5;", 16, 1);
        d.schema("table t a;table t b;", 16, 3);
        d.schema("table t a;table a t;", 2);
        d.schema("table t a;table u a;table v a;table w a;", 4);
        d.schema("table t a;table u a;table v a;table w a;table t a;", 40, 4);
        d.schema("table t a;table u a;table v a;table w a;tables", 40, 1);
        for (String word : Model.TOLD) {
            d.schema("table " + word + " a;", 6, 1);
            d.schema("table t " + word + ";", 8, 1);
        }
    }

    static void keysAndRefs() {
        fresh("key and ref LINES");
        String t = "table t a b c;table u x y;";
        d.schema(t + "key", 29, 1);
        d.schema(t + "key a a;", 30, 3);
        d.schema(t + "key t;", 31, 1);
        d.schema(t + "key t x;", 32, 3);
        d.schema(t + "key t t;", 32, 3);
        d.schema(t + "key t to;", 32, 1);
        d.schema(t + "key t a a;", 34, 3);
        d.schema(t + "key t a x;", 34, 3);
        d.schema(t + "key t a b c;", 36, 1);
        d.schema(t + "key t a b zz;", 36, 1);
        d.schema(t + "key t a b;key t a b;key t b a;key u x;key u x y;key t c;", 8);
        d.schema(t + "key t a b;key t a b;key t b a;key u x;key u x y;key t c;key t c;", 82, 4);
        String k = t + "key t a b;key u x;";
        int at = k.length();
        d.schema(k + "ref u x y to t a b refuse refuse;", 5);
        d.schema(k + "ref u x y to t b a refuse refuse;", at + 17, 3);
        d.schema(k + "ref u x to t a refuse refuse;", at + 13, 3);
        d.schema(k + "ref u x to t z refuse refuse;", at + 13, 3);
        d.schema(k + "ref u x y to t a refuse refuse;", at + 17, 1);
        d.schema(k + "ref u x y to t a z refuse refuse;", at + 17, 3);
        d.schema(k + "ref u x y to t z a refuse refuse;", at + 15, 3);
        d.schema(k + "ref u x y to t a a refuse refuse;", at + 17, 3);
        d.schema(k + "ref u x x to t a b refuse refuse;", at + 8, 3);
        d.schema(k + "ref t a b c to t a b refuse refuse;", at + 10, 1);
        d.schema(k + "ref t a to u x y refuse refuse;", at + 15, 1);
        d.schema(k + "ref t a to z x refuse refuse;", at + 11, 3);
        d.schema(k + "ref z a to u x refuse refuse;", at + 4, 3);
        d.schema(k + "ref t a u x refuse refuse;", at + 8, 3);
        d.schema(k + "ref t a b u x refuse refuse;", at + 10, 1);
        d.schema(k + "ref t a to u x refuse;", at + 21, 1);
        d.schema(k + "ref t a to u x full refuse;", at + 15, 1);
        d.schema(k + "ref t a to u x refuse follow late full;", at + 34, 1);
        d.schema(k + "ref t a to u x refuse follow full late;", 5);
        d.schema(k + "ref t a to u x refuse follow full full;", at + 34, 1);
        d.schema(k + "ref t a to u x refuse follow clear;", at + 29, 1);
        // A KEY that is told behind the REF is none yet.
        d.schema("table t a b;ref t b to t a refuse refuse;key t a;", 25, 3);
        String r = "ref t a to u x clear clear;";
        d.schema(k + repeated(r, 6), 10);
        d.schema(k + repeated(r, 7), at + 6 * 27, 4);
    }

    static void others() {
        fresh("default, need, check LINES");
        String t = "table t a b c;table u x y;";
        d.schema(t + "default t a;", 37, 1);
        d.schema(t + "default t a none;", 38, 1);
        d.schema(t + "default t x 1;", 36, 3);
        d.schema(t + "default u x 0;default u y 99;", 4);
        d.schema(t + "default u x 0;default u x 99;", 50, 3);
        d.schema(t + "default u x 0 1;", 40, 1);
        d.schema(t + "default u x 0;default u x 199;", 50, 3);
        d.schema(t + "need u x;need u y;need t a;", 5);
        d.schema(t + "need u x;need u x;", 42, 3);
        d.schema(t + "need u x y;", 35, 1);
        d.schema(t + "need u z;", 33, 3);
        d.schema(t + "need x x;", 31, 3);
        d.schema("table t a;key t a;need t a;", 3);
        d.schema(t + "check t a < b;check t a=9 late;check u x > y late;", 5);
        d.schema(t + "check t a < a;", 38, 3);
        d.schema(t + "check t a < x;", 38, 3);
        d.schema(t + "check t a < none;", 38, 1);
        d.schema(t + "check t a < late;", 38, 1);
        d.schema(t + "check t a < 100;", 38, 2);
        d.schema(t + "check t a b;", 36, 1);
        d.schema(t + "check t a ( b;", 36, 1);
        d.schema(t + "check t a < b c;", 40, 1);
        d.schema(t + "check t a < b full;", 40, 1);
        d.schema(t + "check t 5 < b;", 34, 1);
        d.schema(t + repeated("check t a<5;", 6), 8);
        d.schema(t + repeated("check t a<5;", 7), 26 + 72, 4);
        // A SCHEMA with a FAULT leaves the one that is so.
        d.is("count(3)", d.x.count(3), 6);
        d.schema("drop", 0, 1);
        d.is("count(3)", d.x.count(3), 6);
    }

    static void statements() {
        fresh("STATEMENTS");
        d.schema("table t a b c;table u x;", 2);
        d.does("", 0, 1);
        d.does("   ", 3, 1);
        d.does("begin", 0, 1);
        d.does("t", 0, 1);
        d.does("insert", 6, 1);
        d.does("insert a 1 2 3", 7, 3);
        d.does("insert set 1 2 3", 7, 1);
        d.does("insert t", 8, 1);
        d.does("insert t 1 2", 12, 1);
        d.does("insert t 1 2 none 4", 18, 1);
        d.does("insert t 1 2 3;", 14, 1);
        d.does("insert t 1 a 3", 11, 1);
        d.does("insert t 1 100 x", 11, 2);
        d.does("insert t 1 none 99", 1);
        d.does("delete", 6, 1);
        d.does("delete x", 7, 3);
        d.does("delete t a", 9, 1);
        d.does("delete t;", 8, 1);
        d.does("set t", 5, 1);
        d.does("set t if", 6, 1);
        d.does("set t x 5", 6, 3);
        d.does("set t a", 7, 1);
        d.does("set t a b", 8, 1);
        d.does("set t a 5 a 6", 10, 3);
        d.does("set t a 5 x 6", 10, 3);
        d.does("set t a 5 b", 11, 1);
        d.does("set t a 5 b 6 c 7", 14, 1);
        d.does("set t a 100", 8, 2);
        d.does("set t a 5 b 120", 12, 2);
        d.does("set t a none b none", 1);
    }

    static void conditions() {
        fresh("CONDS of STATEMENTS");
        d.schema("table t a b c;table u x;", 2);
        d.does("delete t if", 11, 1);
        d.does("delete t if x = 5", 12, 3);
        d.does("delete t if not", 12, 1);
        d.does("delete t if a", 13, 1);
        d.does("delete t if a 5", 14, 1);
        d.does("delete t if a =", 15, 1);
        d.does("delete t if a = b", 16, 1);
        d.does("delete t if a = 100", 16, 2);
        d.does("delete t if a = 5 and", 21, 1);
        d.does("delete t if a = 5 or b = 6", 18, 1);
        d.does("delete t if a=1 and a=2 and b=3 and c=none", 0);
        d.does("delete t if a=1 and a=2 and b=3 and c=none and a=5", 47, 4);
        d.does("delete t if a=1 and a=2 and b=3 and c=none and x=5", 47, 3);
        d.does("delete t if a=1 and a=2 and b=3 and c=none and in=5", 47, 1);
        d.does("set t a 5 if a = 5 if", 19, 1);
        d.does("insert t 1 2 3 if a = 5", 15, 1);
    }

    static void books() {
        fresh("BOOKS");
        d.schema("table t a;", 1);
        d.book(0, "", -1);
        d.book(0, "begin;insert t 5;back;", -1);
        d.book("begin", 5, 1);
        d.book("begin commit;", 6, 1);
        d.book("begin;table", 6, 1);
        d.book("t;", 0, 1);
        d.book(";", 0, 1);
        d.book("insert t 5;insert u 5;", 18, 3);
        d.book("insert t 500;", 9, 2);
        d.is("now(1)", d.x.now(1), 0);
        d.book(0, repeated("delete t;", 40), -1);
        d.book(repeated("delete t;", 40) + "delete t;", 360, 4);
        d.book(repeated("delete t;", 40) + "none", 360, 1);
        d.book(repeated("back;", 41), 200, 4);
        d.book(repeated("delete t;", 40) + "begin;", 360, 4);
    }

    static void sentences() {
        fresh("SENTENCES");
        d.schema("table t a b;table u x a;", 2);
        d.sentence("", 0, 1);
        d.sentence("bare", 1);
        d.sentence("bare;", 4, 1);
        d.sentence("not", 3, 1);
        d.sentence("bare bare", 5, 1);
        d.sentence("bare and", 8, 1);
        d.sentence("or bare", 0, 1);
        d.sentence("(bare", 5, 1);
        d.sentence("bare)", 4, 1);
        d.sentence("()", 1, 1);
        d.sentence("in", 2, 1);
        d.sentence("in a", 3, 3);
        d.sentence("in row", 3, 1);
        d.sentence("in 5", 3, 1);
        d.sentence("in u", 1);
        d.sentence("row 5", 4, 1);
        d.sentence("row < none", 6, 1);
        d.sentence("row < 100", 6, 2);
        d.sentence("row < 99", 1);
        d.sentence("t < 5", 0, 3);
        d.sentence("zz < 5", 0, 3);
        d.sentence("x < 5", 1);
        d.sentence("a < x", 4, 1);
        d.sentence("5 < a", 0, 1);
        d.sentence("if", 0, 1);
        d.sentence("not bare and (known or not broken)", 6);
        d.sentence("not not not not not not not bare", 8);
        d.sentence("not not not not not not not not bare", 32, 4);
        d.sentence("not not not not not not not not zz", 32, 3);
        d.sentence("not not not not not not not not 5", 32, 1);
        d.sentence("(((((((bare)))))))", 8);
        d.sentence("((((((((bare))))))))", 8, 4);
        d.sentence("(((((((not bare)))))))", 11, 4);
        d.sentence("(((((((bare or known)))))))", 9);
        String nineteen = "bare" + repeated(" or bare", 18);
        d.sentence(nineteen + " or bare", 20);
        d.sentence(nineteen + " or bare or known", 160, 4);
        d.sentence(nineteen + " or not known", 156, 4);
        d.sentence(nineteen + " or (known)", 153, 4);
        d.sentence(nineteen + " or bare or", 159, 1);
        d.sentence(nineteen + " or bare or zz", 160, 3);
        d.sentence(nineteen + " or bare or no 7", 160, 3);
        // With a FAULT the one that is so stays.
        d.sentence("row = 5 or row = 6", 2);
        d.sentence("row = 5 or", 10, 1);
        d.is("said(-1)", d.x.said(-1), 0);
    }
}
