import java.util.NoSuchElementException;

/** Calls with any arguments in any state: none throws but where the document says so. */
public final class WildTest {
    private static final int[] ODD = {Integer.MIN_VALUE, Integer.MAX_VALUE, -1, -2, 0, 1, 2, 3, 4, 5, 6, 7, 8, 39, 40, 98, 99,
        100, 255, 256, 1 << 28, 1 << 30, -1 << 30, 0x55555555, 715827883, 0x10000000, -1000};

    public static void main(String[] args) {
        for (int seed = 0; seed < 300; seed++) {
            run(new FollowingRefs(), new Model(), new Texts(9000 + seed));
        }
        System.out.println("WildTest: no call threw");
    }

    static int any(Texts t) {
        return t.once(2) ? t.in(8) - 1 : t.once(3) ? t.r.nextInt() : ODD[t.in(ODD.length)];
    }

    static void run(FollowingRefs x, Model m, Texts t) {
        for (int i = 0; i < 512; i++) {
            if (t.once(4)) {
                feed(x, m, t);
            }
            int call = t.once(3) ? t.in(8) : t.in(34);
            try {
                one(x, t, call);
            } catch (NoSuchElementException e) {
                if (call < 31) {
                    throw new IllegalStateException("call " + call + " threw");
                }
            }
        }
    }

    static void feed(FollowingRefs x, Model m, Texts t) {
        if (t.once(3)) {
            x.feed(t.r.nextInt(), t.r.nextInt(), t.r.nextInt(), t.r.nextInt(), t.r.nextInt());
            return;
        }
        String text;
        if (t.once(3)) {
            text = t.spoiled(t.rich(), 6);
            m.tape = text.getBytes(java.nio.charset.StandardCharsets.ISO_8859_1);
            m.schema();
        } else {
            text = t.spoiled(t.once(3) ? t.sentence(m) : t.once(2) ? t.book(m) : t.statement(m), 6);
        }
        int from = x.count(4);
        for (int i = 0; i < text.length(); i += 20) {
            int[] n = new int[5];
            for (int k = 0; k < 20 && i + k < text.length(); k++) {
                n[k / 4] |= (text.charAt(i + k) & 255) << (24 - 8 * (k % 4));
            }
            x.feed(n[0], n[1], n[2], n[3], n[4]);
        }
        x.end(from + text.length());
    }

    static void one(FollowingRefs x, Texts t, int call) {
        int a = any(t);
        int b = any(t);
        switch (call) {
            case 0: x.schema(); break;
            case 1: x.statement(); break;
            case 2: x.would(); break;
            case 3: x.book(a & 1); break;
            case 4: x.sentence(); break;
            case 5: x.drawn(a & 63, b); break;
            case 6: x.begin(); break;
            case 7: x.commit(); break;
            case 8: x.end(a); break;
            case 9: x.fault(); break;
            case 10: x.judged(a); break;
            case 11: x.goes(a); break;
            case 12: x.steps(a); break;
            case 13: x.violated(a, b); break;
            case 14: x.back(); break;
            case 15: x.undo(); break;
            case 16: x.now(a); break;
            case 17: x.rows(a); break;
            case 18: x.row(a, b); break;
            case 19: x.tableOf(a); break;
            case 20: x.refers(a, b); break;
            case 21: x.referred(a); break;
            case 22: x.table(a, b); break;
            case 23: x.ref(a, b); break;
            case 24: x.order(); x.orderAt(a); break;
            case 25: x.tag(a); x.byteAt(b); break;
            case 26: x.drawn(a, b); break;
            case 27: x.book(a); x.told(b); break;
            case 28: x.said(a); break;
            case 29: x.image(a); x.restore(b); break;
            case 30: x.count(a); break;
            case 31: x.cell(a, b); break;
            case 32: x.col(a, b, any(t)); break;
            default: x.mean(a, b, any(t)); break;
        }
    }
}
