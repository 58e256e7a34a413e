import java.nio.charset.StandardCharsets;
import java.util.ArrayList;
import java.util.List;
import java.util.NoSuchElementException;

/** One object and one model, asked the same. */
final class Pair {
    static final int THROWN = 123456789;

    final FollowingRefs x = new FollowingRefs();
    final Model m = new Model();
    final List<String> log = new ArrayList<>();
    int wrong;
    int asked;

    interface Asked {
        int ask();
    }

    static int answer(Asked asked) {
        try {
            return asked.ask();
        } catch (NoSuchElementException e) {
            return THROWN;
        }
    }

    int same(String call, Asked ofClass, Asked ofModel) {
        int due = answer(ofModel);
        int got = answer(ofClass);
        asked++;
        if (got != due) {
            wrong++;
            System.out.println(call + " answered " + got + ", the model " + due + ", after:");
            log.forEach(line -> System.out.println("    " + line));
        }
        return got;
    }

    void act(String call, Asked ofClass, Asked ofModel) {
        log.add(call);
        int got = same(call, ofClass, ofModel);
        log.set(log.size() - 1, call + " => " + got);
    }

    void put(String text) {
        byte[] bytes = text.getBytes(StandardCharsets.ISO_8859_1);
        int from = x.count(4);
        for (int i = 0; i < bytes.length; i += 20) {
            int[] n = new int[5];
            for (int k = 0; k < 20; k++) {
                n[k / 4] |= (i + k < bytes.length ? bytes[i + k] & 255 : 0) << (24 - 8 * (k % 4));
            }
            same("feed", () -> x.feed(n[0], n[1], n[2], n[3], n[4]), () -> m.feed(n[0], n[1], n[2], n[3], n[4]));
        }
        int to = Math.min(from + bytes.length, x.count(4));
        same("end", () -> x.end(to) ? 1 : 0, () -> m.end(to) ? 1 : 0);
    }

    void compareAll() {
        int made = m.world.made();
        for (int w = -1; w <= 5; w++) {
            int what = w;
            same("now " + what, () -> x.now(what), () -> m.now(what));
            same("judged " + what, () -> x.judged(what), () -> m.judged(what));
            same("told " + what, () -> x.told(what), () -> m.told(what));
            same("count " + what, () -> x.count(what), () -> m.count(what));
            same("orderAt " + what, () -> x.orderAt(what), () -> m.orderAt(what));
        }
        same("fault", () -> x.fault(), () -> m.fault());
        for (int k = -2; k < 42; k++) {
            int i = k;
            same("goes " + i, () -> x.goes(i), () -> m.goes(i));
            same("said " + i, () -> x.said(i), () -> m.said(i));
            for (int what = -1; what <= 3; what++) {
                int w = what;
                same("violated " + i + " " + w, () -> x.violated(i, w), () -> m.violated(i, w));
            }
        }
        for (int t = -1; t <= 4; t++) {
            compareTable(t);
        }
        for (int n = -1; n <= made; n++) {
            int row = n;
            same("steps " + row, () -> x.steps(row), () -> m.steps(row));
            same("tableOf " + row, () -> x.tableOf(row), () -> m.tableOf(row));
            same("referred " + row, () -> x.referred(row), () -> m.referred(row));
            for (int c = -1; c <= 6; c++) {
                int i = c;
                same("cell " + row + " " + i, () -> x.cell(row, i), () -> m.cell(row, i));
                same("refers " + row + " " + i, () -> x.refers(row, i), () -> m.refers(row, i));
            }
        }
        same("tag", () -> x.tag(made / 2), () -> m.tag(made / 2));
        for (int i = -1; i < 25; i++) {
            int k = i;
            same("byteAt " + k, () -> x.byteAt(k), () -> m.byteAt(k));
        }
    }

    void compareTable(int t) {
        same("rows " + t, () -> x.rows(t), () -> m.rows(t));
        for (int k = -1; k < 41; k += 3) {
            int i = k;
            same("row " + t + " " + i, () -> x.row(t, i), () -> m.row(t, i));
        }
        for (int what = -1; what < 6; what++) {
            int w = what;
            same("table " + t + " " + w, () -> x.table(t, w), () -> m.table(t, w));
            for (int c = -1; c <= 4; c++) {
                int i = c;
                same("col " + t + " " + i + " " + w, () -> x.col(t, i, w), () -> m.col(t, i, w));
                same("mean " + t + " " + i + " " + w, () -> x.mean(t, i, w), () -> m.mean(t, i, w));
            }
        }
    }

    void comparePlan() {
        for (int f = -1; f <= 6; f++) {
            for (int what = -1; what <= 7; what++) {
                int i = f;
                int w = what;
                same("ref " + i + " " + w, () -> x.ref(i, w), () -> m.ref(i, w));
            }
        }
        act("order", x::order, m::order);
    }
}
