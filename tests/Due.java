import java.nio.charset.StandardCharsets;
import java.util.NoSuchElementException;

/** A fresh object, fed with texts, and a count of answers that are not the one that is due. */
final class Due {
    static int wrong;
    static int asked;

    FollowingRefs x = new FollowingRefs();
    String promise = "";

    interface Asked {
        int ask();
    }

    void is(String call, int got, int due) {
        asked++;
        if (got != due) {
            wrong++;
            System.out.println(promise + ": " + call + " answered " + got + ", due is " + due);
        }
    }

    void so(String call, boolean got, boolean due) {
        is(call, got ? 1 : 0, due ? 1 : 0);
    }

    void none(String call, Asked asked) {
        boolean threw = false;
        try {
            asked.ask();
        } catch (NoSuchElementException e) {
            threw = true;
        }
        so(call + " throws", threw, true);
    }

    /** Feeds a text behind the tape. */
    Due put(String text) {
        byte[] bytes = text.getBytes(StandardCharsets.ISO_8859_1);
        int from = x.count(4);
        for (int i = 0; i < bytes.length; i += 20) {
            int[] n = new int[5];
            for (int k = 0; k < 20 && i + k < bytes.length; k++) {
                n[k / 4] |= (bytes[i + k] & 255) << (24 - 8 * (k % 4));
            }
            x.feed(n[0], n[1], n[2], n[3], n[4]);
        }
        so("end behind " + text, x.end(from + bytes.length), true);
        return this;
    }

    void schema(String text, int due) {
        put(text);
        is("schema " + text, x.schema(), due);
        is("count(4) behind schema " + text, x.count(4), 0);
    }

    void schema(String text, int place, int kind) {
        schema(text, -1 - place);
        is("fault of schema " + text, x.fault(), kind);
    }

    void does(String text, int due) {
        put(text);
        is("statement " + text, x.statement(), due);
    }

    void does(String text, int place, int kind) {
        does(text, -2 - place);
        is("fault of statement " + text, x.fault(), kind);
    }

    void would(String text, int due) {
        put(text);
        is("would " + text, x.would(), due);
    }

    void book(int lives, String text, int due) {
        put(text);
        is("book " + lives + " " + text, x.book(lives), due);
    }

    void book(String text, int place, int kind) {
        book(1, text, -2 - place);
        is("fault of book " + text, x.fault(), kind);
    }

    void sentence(String text, int due) {
        put(text);
        is("sentence " + text, x.sentence(), due);
    }

    void sentence(String text, int place, int kind) {
        sentence(text, -1 - place);
        is("fault of sentence " + text, x.fault(), kind);
    }

    /** A text with ^ ahead of the TOKEN of its FAULT (or at its end), and the kind of that. */
    void badSchema(int kind, String marked) {
        schema(marked.replace("^", ""), marked.indexOf('^'), kind);
    }

    void badStatement(int kind, String marked) {
        String text = marked.replace("^", "");
        does(text, marked.indexOf('^'), kind);
        would(text, -2 - marked.indexOf('^'));
        is("fault of would " + text, x.fault(), kind);
    }

    void badBook(int kind, String marked) {
        book(marked.replace("^", ""), marked.indexOf('^'), kind);
    }

    void badSentence(int kind, String marked) {
        sentence(marked.replace("^", ""), marked.indexOf('^'), kind);
    }

    /** Inserts ROWS of the first TABLE, of one COL that has 7, by BOOKS. */
    void fill(int rows) {
        for (int left = rows; left > 0; left -= 30) {
            book(1, "insert t 7;".repeat(Math.min(left, 30)), -1);
        }
    }

    /** A text with blanks behind it, so that it has so many bytes. */
    static String padded(String text, int bytes) {
        return text + " ".repeat(bytes - text.length());
    }

    /** A text with blanks ahead of its last part, so that this begins at a place. */
    static String placed(String text, int place, String last) {
        return padded(text, place) + last;
    }

    void said(int... due) {
        is("said(-1)", x.said(-1), due.length);
        for (int k = 0; k < due.length; k++) {
            is("said(" + k + ")", x.said(k), due[k]);
        }
        is("said behind the last", x.said(due.length), -1);
    }

    void judged(int why, int found, int going, int changed) {
        is("judged(0)", x.judged(0), why);
        is("judged(1)", x.judged(1), found);
        is("judged(2)", x.judged(2), going);
        is("judged(3)", x.judged(3), changed);
    }

    void violated(int k, int kind, int number, int row) {
        is("violated(" + k + ", 0)", x.violated(k, 0), kind);
        is("violated(" + k + ", 1)", x.violated(k, 1), number);
        is("violated(" + k + ", 2)", x.violated(k, 2), row);
    }

    void cells(int row, int... due) {
        for (int c = 0; c < due.length; c++) {
            int col = c;
            try {
                is("cell(" + row + ", " + c + ")", x.cell(row, col), due[c]);
            } catch (NoSuchElementException e) {
                is("cell(" + row + ", " + c + ") throws", 1, 0);
            }
        }
    }

    static void close(String name) {
        System.out.println(name + ": " + asked + " answers, " + wrong + " wrong");
        if (wrong > 0) {
            System.exit(1);
        }
    }
}
