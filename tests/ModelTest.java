/** Runs of drawn calls, compared with the model answer by answer. */
public final class ModelTest {
    private static final int RUNS = 300;
    private static final int ACTS = 60;

    public static void main(String[] args) {
        int first = args.length > 0 ? Integer.parseInt(args[0]) : 1;
        int runs = args.length > 1 ? Integer.parseInt(args[1]) : RUNS;
        long asked = 0;
        int[] seen = new int[64];
        for (int seed = first; seed < first + runs; seed++) {
            Pair p = new Pair();
            run(p, new Texts(seed), seen);
            asked += p.asked;
            if (p.wrong > 0) {
                System.out.println("seed " + seed);
                System.exit(1);
            }
        }
        StringBuilder s = new StringBuilder("answers alike: " + asked + "; seen:");
        for (int i = 0; i <= 28; i++) {
            boolean due = i <= 6 || i > 10 && i < 15 || i >= 20;
            if (due) {
                s.append(' ').append(i).append(':').append(seen[i]);
            }
        }
        System.out.println(s);
        if (runs >= RUNS && s.toString().matches(".*:0( .*)?")) {
            throw new IllegalStateException("nothing of some sort was drawn: the runs are too poor");
        }
    }

    static void run(Pair p, Texts t, int[] seen) {
        int spoil = t.once(2) ? 8 : 40;
        schema(p, t, t.once(3) ? 4 : 1000);
        for (int i = 0; i < ACTS; i++) {
            // At times a crowd is inserted, so that there is no room for more.
            for (int crowd = t.once(15) ? t.in(40) : 0; crowd > 0; crowd--) {
                String text = t.join(t.fitting(p.m));
                p.put(text);
                p.act("statement " + text, p.x::statement, p.m::statement);
                note(p, seen);
            }
            act(p, t, spoil);
            note(p, seen);
            if (t.once(6)) {
                p.compareAll();
            }
            if (p.wrong > 0) {
                return;
            }
        }
        p.compareAll();
    }

    /** What the runs came to, so that it shows if they come to too little. */
    static void note(Pair p, int[] seen) {
        String last = p.log.get(p.log.size() - 1);
        if (last.startsWith("statement") || last.startsWith("would")) {
            seen[p.x.fault() > 0 ? 10 + p.x.fault() : p.x.judged(0)]++;
            boolean judged = p.x.fault() == 0 && p.x.judged(0) == 0;
            seen[20] += judged && p.x.judged(3) > p.x.judged(1) ? 1 : 0;
            seen[21] += judged && p.x.judged(2) > p.x.judged(1) ? 1 : 0;
            seen[22] += judged && p.m.goers.containsValue(2) ? 1 : 0;
            seen[23] += judged && p.x.judged(2) > 0 && p.x.judged(3) > 0 ? 1 : 0;
        } else {
            seen[10 + p.x.fault()]++;
        }
        seen[24] += last.matches("(?s)book 1.* => -1") ? 1 : 0;
        seen[25] += last.startsWith("undo") && !last.endsWith("-1") ? 1 : 0;
        seen[26] += last.matches("(?s)commit => 2") ? 1 : 0;
        seen[27] += last.matches("(?s)sentence.* => [0-9]+") ? 1 : 0;
        seen[28] += p.x.said(-1) > 0 && p.x.said(-1) < p.x.now(0) ? 1 : 0;
    }

    static void schema(Pair p, Texts t, int spoil) {
        String text = t.spoiled(t.once(2) ? t.schema() : t.rich(), spoil);
        p.put(text);
        p.act("schema " + text, p.x::schema, p.m::schema);
        p.comparePlan();
    }

    static void act(Pair p, Texts t, int spoil) {
        int act = t.in(40);
        if (act < 16) {
            String text = t.spoiled(t.once(3) ? t.statement(p.m) : t.once(3) ? t.fitting(p.m) : t.stirring(p.m), spoil);
            p.put(text);
            p.act("statement " + text, p.x::statement, p.m::statement);
        } else if (act < 19) {
            String text = t.spoiled(t.once(2) ? t.statement(p.m) : t.stirring(p.m), spoil);
            p.put(text);
            p.act("would " + text, p.x::would, p.m::would);
        } else if (act < 23) {
            String text = t.spoiled(t.book(p.m), spoil);
            int lives = t.once(9) ? 2 : t.in(2);
            p.put(text);
            p.act("book " + lives + " " + text, () -> p.x.book(lives), () -> p.m.book(lives));
            if (lives == 2) {
                p.same("end", () -> p.x.end(0) ? 1 : 0, () -> p.m.end(0) ? 1 : 0);
            }
        } else if (act < 26) {
            String text = t.spoiled(t.sentence(p.m), spoil);
            p.put(text);
            p.act("sentence " + text, p.x::sentence, p.m::sentence);
        } else if (act < 28) {
            int n = t.in(43) - 1;
            int seed = t.r.nextInt();
            p.act("drawn " + n + " " + seed, () -> p.x.drawn(n, seed), () -> p.m.drawn(n, seed));
        } else {
            plainAct(p, t, act, spoil);
        }
    }

    static void plainAct(Pair p, Texts t, int act, int spoil) {
        int k = t.in(8) == 0 ? t.in(5) - 2 : t.in(2);
        switch (act) {
            case 28:
            case 29:
            case 30:
                p.act("begin", p.x::begin, p.m::begin);
                break;
            case 31:
            case 32:
                p.act("commit", p.x::commit, p.m::commit);
                break;
            case 33:
                p.act("back", p.x::back, p.m::back);
                break;
            case 34:
            case 35:
                p.act("undo", p.x::undo, p.m::undo);
                break;
            case 36:
                p.act("image " + k, () -> p.x.image(k) ? 1 : 0, () -> p.m.image(k) ? 1 : 0);
                break;
            case 37:
                p.act("restore " + k, () -> p.x.restore(k) ? 1 : 0, () -> p.m.restore(k) ? 1 : 0);
                break;
            case 38:
                if (t.once(3)) {
                    schema(p, t, spoil);
                }
                break;
            default:
                int n = t.in(20) - 3;
                p.act("end " + n, () -> p.x.end(n) ? 1 : 0, () -> p.m.end(n) ? 1 : 0);
                p.same("end", () -> p.x.end(0) ? 1 : 0, () -> p.m.end(0) ? 1 : 0);
                break;
        }
    }
}
