import java.util.ArrayList;
import java.util.List;
import java.util.Map;
import java.util.Random;

/** Draws texts that are mostly as told: SCHEMAS, STATEMENTS, BOOKS, SENTENCES, and spoils some of them. */
final class Texts {
    private static final String[] NAMES = {"a", "b", "t", "dept", "quarter", "x", "id", "up", "n"};
    private static final String[] SPOIL = {"table", "key", "ref", "to", "refuse", "follow", "clear", "reset", "full",
        "late", "default", "need", "check", "insert", "delete", "if", "and", "set", "begin", "commit", "back", "none",
        "or", "not", "bare", "known", "broken", "in", "row", ";", "<", "=", ">", "(", ")", ".", "a", "b", "t", "x",
        "0", "7", "99", "100", "999", "1000", "a1", "1a", "eightwor", "sevenwo", "A", "-", "\u00e9", "\t"};
    final Random r;

    Texts(long seed) {
        r = new Random(seed);
    }

    int in(int n) {
        return r.nextInt(n);
    }

    boolean once(int n) {
        return in(n) == 0;
    }

    <T> T of(List<T> some) {
        return some.get(in(some.size()));
    }

    String name() {
        return NAMES[in(NAMES.length)];
    }

    String value() {
        return once(6) ? "none" : String.valueOf(once(8) ? in(once(9) ? 120 : 100) : in(6));
    }

    String join(List<String> tokens) {
        StringBuilder s = new StringBuilder();
        for (String token : tokens) {
            boolean run = s.length() > 0 && Character.isLetterOrDigit(s.charAt(s.length() - 1))
                    && Character.isLetterOrDigit(token.charAt(0));
            s.append(run || once(3) ? once(9) ? "\n" : " " : "").append(token);
        }
        return s.toString();
    }

    /** One text in so many is spoiled: a TOKEN dropped, doubled, put for another, or the end cut off. */
    String spoiled(List<String> tokens, int oneIn) {
        List<String> some = new ArrayList<>(tokens);
        while (once(oneIn)) {
            int i = in(some.size() + 1);
            switch (in(5)) {
                case 0:
                    some.add(i, SPOIL[in(SPOIL.length)]);
                    break;
                case 1:
                    if (i < some.size()) {
                        some.remove(i);
                    }
                    break;
                case 2:
                    if (i < some.size()) {
                        some.set(i, SPOIL[in(SPOIL.length)]);
                    }
                    break;
                case 3:
                    if (i < some.size()) {
                        some.add(i, some.get(i));
                    }
                    break;
                default:
                    some = new ArrayList<>(some.subList(0, i));
                    break;
            }
            oneIn = 2;
        }
        String s = join(some);
        return once(4 * oneIn) ? s + "  \n " : s;
    }

    void add(List<String> tokens, String words) {
        for (String word : words.split(" ")) {
            tokens.add(word);
        }
    }

    List<String> schema() {
        List<String> tokens = new ArrayList<>();
        List<String> tables = new ArrayList<>();
        List<List<String>> cols = new ArrayList<>();
        int count = 1 + in(4);
        for (int t = 0; t < count; t++) {
            String name = name();
            List<String> some = new ArrayList<>();
            for (int c = 1 + in(4); c > 0; c--) {
                String col = name();
                if (!some.contains(col)) {
                    some.add(col);
                }
            }
            if (!tables.contains(name)) {
                tables.add(name);
                cols.add(some);
                add(tokens, "table " + name + " " + String.join(" ", some) + " ;");
            }
        }
        List<String> keys = new ArrayList<>();
        for (int k = 1 + in(6); k > 0; k--) {
            int t = in(tables.size());
            String key = tables.get(t) + " " + oneOrTwo(cols.get(t), once(3));
            keys.add(key);
            add(tokens, "key " + key + " ;");
        }
        for (int f = in(7); f > 0; f--) {
            String key = of(keys);
            int t = in(tables.size());
            boolean two = key.split(" ").length == 3;
            if (two && cols.get(t).size() == 1) {
                continue;
            }
            String[] ons = {"refuse", "follow", "follow", "clear", "reset", "follow"};
            add(tokens, "ref " + tables.get(t) + " " + oneOrTwo(cols.get(t), two) + " to " + key + " "
                    + ons[in(6)] + " " + ons[in(6)] + (once(3) ? " full" : "") + (once(3) ? " late" : "") + " ;");
        }
        for (int i = in(8); i > 0; i--) {
            int t = in(tables.size());
            String col = of(cols.get(t));
            String[] lines = {"default " + tables.get(t) + " " + col + " " + in(5),
                "need " + tables.get(t) + " " + col,
                "check " + tables.get(t) + " " + col + " " + "<=>".charAt(in(3)) + " "
                    + (once(2) ? String.valueOf(in(100)) : of(cols.get(t))) + (once(2) ? " late" : "")};
            add(tokens, lines[once(3) ? 1 : in(2) * 2] + " ;");
        }
        return tokens;
    }

    /** A SCHEMA in which much can follow: each TABLE has a KEY, most other COLS refer. */
    List<String> rich() {
        List<String> tokens = new ArrayList<>();
        int count = 1 + in(4);
        boolean two = once(3);
        for (int t = 0; t < count; t++) {
            add(tokens, "table " + NAMES[t] + " id a b" + (once(2) ? " n" : "") + " ; key " + NAMES[t]
                    + (two ? " id a ;" : " id ;"));
        }
        if (once(2)) {
            add(tokens, "key " + NAMES[0] + " b ;");
        }
        String[] ons = {"follow", "follow", "clear", "reset", "refuse"};
        for (int f = 2 + in(5); f > 0; f--) {
            add(tokens, "ref " + NAMES[in(count)] + (two ? once(2) ? " b a" : " id b" : once(3) ? " a" : " b") + " to "
                    + NAMES[in(count)] + (two ? " id a " : " id ") + ons[in(5)] + " " + ons[in(5)]
                    + (once(4) ? " full" : "") + (once(3) ? " late" : "") + " ;");
        }
        for (int d = in(3); d > 0; d--) {
            add(tokens, "default " + NAMES[in(count)] + " " + (d == 1 ? "a" : "b") + " " + in(5) + " ;");
        }
        if (once(4)) {
            add(tokens, "check " + NAMES[in(count)] + " a < b late ;");
        }
        return tokens;
    }

    /** An insertion that is mostly not refused: VALUES that are there already, new ones, none; the best of some. */
    List<String> fitting(Model m) {
        List<String> tokens = statement(m);
        for (int tries = 12; tries > 0 && !m.plan.tables.isEmpty(); tries--) {
            tokens = new ArrayList<>();
            List<Integer> values = new ArrayList<>();
            int table = in(m.plan.tables.size());
            Model.Table t = m.plan.tables.get(table);
            add(tokens, "insert " + t.name());
            for (int c = 0; c < t.cols().size(); c++) {
                Integer v = once(3) ? null : Integer.valueOf(in(100));
                if (once(2) && !m.world.rows().isEmpty()) {
                    v = of(of(m.world.rows()).values());
                }
                values.add(v);
                tokens.add(v == null ? "none" : v.toString());
            }
            if (m.new Verdict(new Model.Line("insert", table, values, Map.of(), List.of())).why == 0) {
                return tokens;
            }
        }
        return tokens;
    }

    /** A deletion, a change of a KEY of ROWS to which others refer, if there are such. */
    List<String> stirring(Model m) {
        List<Model.Row> told = new ArrayList<>(m.world.rows());
        told.removeIf(row -> m.referred(row.number()) == 0);
        if (told.isEmpty()) {
            return fitting(m);
        }
        List<String> tokens = new ArrayList<>();
        Model.Row row = of(told);
        Model.Table t = m.plan.tables.get(row.table());
        int c = 0;
        for (Model.Key key : m.plan.keys) {
            c = key.table() == row.table() && once(2) ? of(key.cols()) : c;
        }
        Integer v = row.values().get(c);
        String cond = t.cols().get(c) + " = " + (v == null ? "none" : v);
        if (once(2)) {
            add(tokens, "delete " + t.name() + " if " + cond);
        } else {
            add(tokens, "set " + t.name() + " " + t.cols().get(c) + " " + (once(9) ? "none" : String.valueOf(in(100))));
            String other = of(t.cols());
            if (once(3) && !other.equals(t.cols().get(c))) {
                add(tokens, other + " " + value());
            }
            if (!once(5)) {
                add(tokens, "if " + cond);
            }
        }
        return tokens;
    }

    String oneOrTwo(List<String> cols, boolean two) {
        int c = in(cols.size());
        int d = in(cols.size());
        return two && c != d ? cols.get(c) + " " + cols.get(d) : two && cols.size() > 1
                ? cols.get(c) + " " + cols.get((c + 1) % cols.size()) : cols.get(c);
    }

    List<String> statement(Model m) {
        List<String> tokens = new ArrayList<>();
        if (m.plan.tables.isEmpty()) {
            add(tokens, "insert t 1");
            return tokens;
        }
        Model.Table t = of(m.plan.tables);
        int act = in(10);
        if (act < 6) {
            add(tokens, "insert " + t.name());
            for (int c = 0; c < t.cols().size(); c++) {
                tokens.add(value());
            }
        } else if (act < 8) {
            add(tokens, "set " + t.name() + " " + of(t.cols()) + " " + value());
            String other = of(t.cols());
            if (once(3) && !tokens.contains(other)) {
                add(tokens, other + " " + value());
            }
            conds(tokens, t);
        } else {
            add(tokens, "delete " + t.name());
            conds(tokens, t);
        }
        return tokens;
    }

    void conds(List<String> tokens, Model.Table t) {
        for (int i = 0; i < 6 && !once(i == 0 ? 6 : 2); i++) {
            add(tokens, (i == 0 ? "if " : "and ") + of(t.cols()) + " " + "<==>".charAt(in(4)) + " " + value());
        }
    }

    List<String> book(Model m) {
        List<String> tokens = new ArrayList<>();
        boolean fits = once(2);
        for (int i = in(once(4) ? 45 : 8); i > 0; i--) {
            if (fits) {
                tokens.addAll(fitting(m));
            } else if (once(4)) {
                add(tokens, new String[] {"begin", "commit", "back"}[in(3)]);
            } else {
                tokens.addAll(statement(m));
            }
            tokens.add(";");
        }
        return tokens;
    }

    List<String> sentence(Model m) {
        List<String> tokens = new ArrayList<>();
        cond(tokens, m, 0);
        return tokens;
    }

    void cond(List<String> tokens, Model m, int depth) {
        one(tokens, m, depth);
        while (once(2)) {
            tokens.add(once(2) ? "or" : "and");
            one(tokens, m, depth);
        }
    }

    void one(List<String> tokens, Model m, int depth) {
        int act = depth > 9 ? 3 : in(9);
        boolean tables = !m.plan.tables.isEmpty();
        if (act < 2) {
            tokens.add("not");
            one(tokens, m, depth + 1);
        } else if (act == 2) {
            tokens.add("(");
            cond(tokens, m, depth + 1);
            tokens.add(")");
        } else if (act < 6 || !tables) {
            add(tokens, new String[] {"bare", "known", "broken", "row < " + in(50)}[in(4)]);
        } else if (act == 6) {
            add(tokens, "in " + of(m.plan.tables).name());
        } else {
            add(tokens, of(of(m.plan.tables).cols()) + " " + "<=>".charAt(in(3)) + " " + in(7));
        }
    }
}
