import java.util.ArrayDeque;
import java.util.ArrayList;
import java.util.Arrays;
import java.util.Deque;
import java.util.HashMap;
import java.util.HashSet;
import java.util.LinkedHashMap;
import java.util.List;
import java.util.Map;
import java.util.NoSuchElementException;
import java.util.Set;
import java.util.TreeMap;
import java.util.function.Predicate;

/** The document once more, written as plainly as the Java library lets it be, for runs that compare both. */
final class Model {
    static final int NONE = -1;
    static final Set<String> TOLD = new HashSet<>(Arrays.asList((
            "table key ref to refuse follow clear reset full late default need check "
            + "insert delete if and set begin commit back none or not bare known broken in row").split(" ")));

    static final class Fault extends RuntimeException {
        final int kind;
        final int place;

        Fault(int kind, int place) {
            this.kind = kind;
            this.place = place;
        }
    }

    record Row(int number, int table, List<Integer> values) { }

    record World(List<Row> rows, int made, List<Row> begun) { }

    record Table(String name, List<String> cols) { }

    record Key(int table, List<Integer> cols) { }

    record Ref(int table, List<Integer> cols, int other, int key, int gone, int changed, boolean full, boolean late) { }

    record Check(int table, int col, char sign, Integer number, Integer other, boolean late) { }

    record Violation(int kind, int number, int row) { }

    record Cond(int col, char sign, Integer value) { }

    record Line(String act, int table, List<Integer> values, Map<Integer, Integer> sets, List<Cond> conds) { }

    static final class Plan {
        final List<Table> tables = new ArrayList<>();
        final List<Key> keys = new ArrayList<>();
        final List<Ref> refs = new ArrayList<>();
        final List<Check> checks = new ArrayList<>();
        final Map<List<Integer>, Integer> defaults = new HashMap<>();
        final Set<List<Integer>> needs = new HashSet<>();

        int table(String name) {
            for (int t = 0; t < tables.size(); t++) {
                if (tables.get(t).name.equals(name)) {
                    return t;
                }
            }
            return -1;
        }

        boolean needed(int t, int c) {
            return needs.contains(List.of(t, c)) || keys.stream().anyMatch(k -> k.table == t && k.cols.contains(c));
        }
    }

    // ---- what is so ----
    byte[] tape = new byte[0];
    Plan plan = new Plan();
    World world = new World(List.of(), 0, null);
    Predicate<Row> sentence;
    int ones;
    final Deque<World> undos = new ArrayDeque<>();
    final Object[] images = new Object[2];
    int fault;
    // the latest statement
    boolean any;
    int why;
    int found;
    int changed;
    final TreeMap<Integer, Integer> goers = new TreeMap<>();
    List<Violation> violations = List.of();
    int[] told;
    String tag = "";
    List<Integer> order = List.of();

    // ---- reading ----
    final class Reader {
        final String text;
        final int most;
        int at;

        Reader(int most) {
            this.text = new String(tape, java.nio.charset.StandardCharsets.ISO_8859_1);
            this.most = most;
        }

        // The TOKEN at hand: "" at the end, null if it is none.
        String look() {
            while (at < Math.min(most, text.length()) && (text.charAt(at) == ' ' || text.charAt(at) == '\n')) {
                at++;
            }
            if (at >= Math.min(most, text.length())) {
                return text.length() > most ? null : "";
            }
            String rest = text.substring(at);
            java.util.regex.Matcher run = java.util.regex.Pattern.compile("^[a-z0-9]+").matcher(rest);
            if (run.find()) {
                String s = run.group();
                return s.matches("[a-z]{1,7}|[0-9]{1,3}") ? s : null;
            }
            return ";<=>().".indexOf(rest.charAt(0)) >= 0 ? rest.substring(0, 1) : null;
        }

        void over() {
            at += look().length();
        }

        Fault bad(int kind) {
            look();
            // A TOKEN read whole may end behind the most bytes: what comes then is told at them.
            return new Fault(kind, Math.min(at, most));
        }

        boolean is(String s) {
            String have = look();
            return have != null && have.equals(s);
        }

        boolean maybe(String s) {
            if (!is(s)) {
                return false;
            }
            over();
            return true;
        }

        void must(String s) {
            if (!maybe(s)) {
                throw bad(1);
            }
        }

        boolean isName() {
            String s = look();
            return s != null && s.matches("[a-z]+") && !TOLD.contains(s);
        }

        String name() {
            if (!isName()) {
                throw bad(1);
            }
            return look();
        }

        int table(Plan p) {
            int t = p.table(name());
            if (t < 0) {
                throw bad(3);
            }
            over();
            return t;
        }

        int colHere(Plan p, int t, List<Integer> unlike) {
            int c = p.tables.get(t).cols.indexOf(name());
            if (c < 0 || unlike.contains(c)) {
                throw bad(3);
            }
            return c;
        }

        int col(Plan p, int t, List<Integer> unlike) {
            int c = colHere(p, t, unlike);
            over();
            return c;
        }

        int number() {
            String s = look();
            if (s == null || !s.matches("[0-9]+")) {
                throw bad(1);
            }
            if (Integer.parseInt(s) > 99) {
                throw bad(2);
            }
            over();
            return Integer.parseInt(s);
        }

        Integer value() {
            return maybe("none") ? null : Integer.valueOf(number());
        }

        char sign() {
            if (!is("<") && !is("=") && !is(">")) {
                throw bad(1);
            }
            char c = look().charAt(0);
            over();
            return c;
        }

        int on() {
            int i = List.of("refuse", "follow", "clear", "reset").indexOf(String.valueOf(look()));
            if (i < 0) {
                throw bad(1);
            }
            over();
            return i;
        }

        void end() {
            if (!is("")) {
                throw bad(1);
            }
        }
    }

    int readSchema(Plan p) {
        Reader r = new Reader(900);
        int lines = 0;
        for (; !r.is(""); lines++) {
            String sort = String.valueOf(r.look());
            Map<String, Boolean> room = Map.of("table", p.tables.size() < 4, "key", p.keys.size() < 6,
                    "ref", p.refs.size() < 6, "check", p.checks.size() < 6, "default", true, "need", true);
            if (!room.containsKey(sort)) {
                throw r.bad(1);
            }
            if (!room.get(sort)) {
                throw r.bad(4);
            }
            r.over();
            if (sort.equals("table")) {
                readTable(r, p);
            } else {
                readOther(r, p, sort);
            }
            r.must(";");
        }
        return lines;
    }

    void readTable(Reader r, Plan p) {
        String name = r.name();
        if (p.table(name) >= 0) {
            throw r.bad(3);
        }
        r.over();
        Table t = new Table(name, new ArrayList<>());
        p.tables.add(t);
        r.name();
        while (r.isName()) {
            if (t.cols.contains(r.name())) {
                throw r.bad(3);
            }
            if (t.cols.size() == 4) {
                throw r.bad(4);
            }
            t.cols.add(r.name());
            r.over();
        }
    }

    void readOther(Reader r, Plan p, String sort) {
        int t = r.table(p);
        List<Integer> cols = new ArrayList<>();
        cols.add(r.colHere(p, t, cols));
        List<Integer> here = List.of(t, cols.get(0));
        if (sort.equals("default") && p.defaults.containsKey(here) || sort.equals("need") && p.needs.contains(here)) {
            throw r.bad(3);
        }
        r.over();
        if ((sort.equals("key") || sort.equals("ref")) && r.isName()) {
            cols.add(r.col(p, t, cols));
        }
        switch (sort) {
            case "key" -> p.keys.add(new Key(t, cols));
            case "default" -> p.defaults.put(here, r.number());
            case "need" -> p.needs.add(here);
            case "ref" -> {
                r.must("to");
                int other = r.table(p);
                List<Integer> keyed = new ArrayList<>();
                int key = -1;
                while (keyed.size() < cols.size()) {
                    keyed.add(r.colHere(p, other, keyed));
                    if (keyed.size() == cols.size()) {
                        key = p.keys.indexOf(new Key(other, keyed));
                        if (key < 0) {
                            throw r.bad(3);
                        }
                    }
                    r.over();
                }
                int gone = r.on();
                int changed = r.on();
                boolean full = r.maybe("full");
                p.refs.add(new Ref(t, cols, other, key, gone, changed, full, r.maybe("late")));
            }
            default -> {
                char sign = r.sign();
                Integer than = r.isName() ? Integer.valueOf(r.col(p, t, cols)) : null;
                Integer number = than == null ? Integer.valueOf(r.number()) : null;
                p.checks.add(new Check(t, cols.get(0), sign, number, than, r.maybe("late")));
            }
        }
    }

    Line readLine(Reader r) {
        String act = r.look();
        r.over();
        if (act.equals("begin") || act.equals("commit") || act.equals("back")) {
            return new Line(act, -1, null, null, null);
        }
        int t = r.table(plan);
        List<Integer> values = new ArrayList<>();
        Map<Integer, Integer> sets = new LinkedHashMap<>();
        List<Cond> conds = new ArrayList<>();
        if (act.equals("insert")) {
            for (int i = 0; i < plan.tables.get(t).cols.size(); i++) {
                values.add(r.value());
            }
            return new Line(act, t, values, sets, conds);
        }
        if (act.equals("set")) {
            int c = r.col(plan, t, List.of());
            sets.put(c, r.value());
            if (r.isName()) {
                int d = r.col(plan, t, List.of(c));
                sets.put(d, r.value());
            }
        }
        if (r.maybe("if")) {
            do {
                int c = r.colHere(plan, t, List.of());
                if (conds.size() == 4) {
                    throw r.bad(4);
                }
                r.over();
                char sign = r.sign();
                conds.add(new Cond(c, sign, r.value()));
            } while (r.maybe("and"));
        }
        return new Line(act, t, values, sets, conds);
    }

    Line readStatement() {
        Reader r = new Reader(200);
        if (!r.is("insert") && !r.is("delete") && !r.is("set")) {
            throw r.bad(1);
        }
        Line line = readLine(r);
        r.end();
        return line;
    }

    List<Line> readBook() {
        Reader r = new Reader(400);
        List<Line> lines = new ArrayList<>();
        while (!r.is("")) {
            if (!List.of("insert", "delete", "set", "begin", "commit", "back").contains(String.valueOf(r.look()))) {
                throw r.bad(1);
            }
            if (lines.size() == 40) {
                throw r.bad(4);
            }
            lines.add(readLine(r));
            r.must(";");
        }
        return lines;
    }

    Predicate<Row> readCond(Reader r, int depth) {
        Predicate<Row> all = readAll(r, depth);
        while (r.maybe("or")) {
            all = all.or(readAll(r, depth));
        }
        return all;
    }

    Predicate<Row> readAll(Reader r, int depth) {
        Predicate<Row> all = readOne(r, depth);
        while (r.maybe("and")) {
            all = all.and(readOne(r, depth));
        }
        return all;
    }

    Predicate<Row> readOne(Reader r, int depth) {
        String s = String.valueOf(r.look());
        boolean told = List.of("not", "(", "bare", "known", "broken", "in", "row").contains(s);
        if (!told) {
            String name = r.name();
            if (plan.tables.stream().noneMatch(t -> t.cols.contains(name))) {
                throw r.bad(3);
            }
        }
        if (++ones > 20 || depth > 8) {
            throw r.bad(4);
        }
        r.over();
        switch (s) {
            case "not":
                return readOne(r, depth + 1).negate();
            case "(":
                Predicate<Row> inner = readCond(r, depth + 1);
                r.must(")");
                return inner;
            case "bare":
                return row -> row.values.contains(null);
            case "known":
                return row -> referred(row.number) > 0;
            case "broken":
                return row -> violations(world.rows, true).stream().anyMatch(v -> v.row == row.number);
            case "in":
                int t = r.table(plan);
                return row -> row.table == t;
            default:
                char sign = r.sign();
                int number = r.number();
                return row -> {
                    int c = plan.tables.get(row.table).cols.indexOf(s);
                    Integer have = s.equals("row") ? Integer.valueOf(row.number) : c < 0 ? null : row.values.get(c);
                    return have != null && holds(have, sign, number);
                };
        }
    }

    static boolean holds(int a, char sign, int b) {
        return sign == '<' && a < b || sign == '=' && a == b || sign == '>' && a > b;
    }

    // ---- what follows ----
    static List<Integer> pick(Row row, List<Integer> cols) {
        List<Integer> picked = new ArrayList<>();
        for (int c : cols) {
            picked.add(row.values.get(c));
        }
        return picked;
    }

    Row target(List<Row> rows, Row row, Ref f) {
        if (row.table != f.table || pick(row, f.cols).contains(null)) {
            return null;
        }
        for (Row to : rows) {
            if (to.table == f.other && pick(to, plan.keys.get(f.key).cols).equals(pick(row, f.cols))) {
                return to;
            }
        }
        return null;
    }

    List<Violation> violations(List<Row> rows, boolean lateToo) {
        List<Violation> all = new ArrayList<>();
        for (int t = 0; t < plan.tables.size(); t++) {
            for (int c = 0; c < plan.tables.get(t).cols.size(); c++) {
                for (Row row : rows) {
                    if (row.table == t && plan.needed(t, c) && row.values.get(c) == null) {
                        all.add(new Violation(1, c, row.number));
                    }
                }
            }
        }
        for (int k = 0; k < plan.keys.size(); k++) {
            Set<List<Integer>> seen = new HashSet<>();
            for (Row row : rows) {
                Key key = plan.keys.get(k);
                if (row.table == key.table && !pick(row, key.cols).contains(null) && !seen.add(pick(row, key.cols))) {
                    all.add(new Violation(2, k, row.number));
                }
            }
        }
        for (int f = 0; f < plan.refs.size(); f++) {
            Ref ref = plan.refs.get(f);
            for (Row row : rows) {
                if (row.table != ref.table || ref.late && !lateToo) {
                    continue;
                }
                long nones = pick(row, ref.cols).stream().filter(v -> v == null).count();
                if (nones == 0 && target(rows, row, ref) == null || ref.full && nones == 1 && ref.cols.size() == 2) {
                    all.add(new Violation(3, f, row.number));
                }
            }
        }
        for (int h = 0; h < plan.checks.size(); h++) {
            Check check = plan.checks.get(h);
            for (Row row : rows) {
                if (row.table != check.table || check.late && !lateToo) {
                    continue;
                }
                Integer a = row.values.get(check.col);
                Integer b = check.other == null ? check.number : row.values.get(check.other);
                if (a != null && b != null && !holds(a, check.sign, b)) {
                    all.add(new Violation(4, h, row.number));
                }
            }
        }
        return all;
    }

    /** What a STATEMENT would do. */
    final class Verdict {
        int why;
        int found;
        int changed;
        int touched;
        final TreeMap<Integer, Integer> goers = new TreeMap<>();
        List<Violation> violations = List.of();
        List<Row> then = new ArrayList<>();
        int made = world.made;
        final Map<List<Integer>, Set<Integer>> wished = new HashMap<>();

        Verdict(Line line) {
            if (line.act.equals("insert")) {
                if (world.rows.size() >= 40 || world.made >= 99) {
                    why = 6;
                    return;
                }
                then.addAll(world.rows);
                then.add(new Row(made++, line.table, line.values));
                touched = 1;
            } else if (!change(line)) {
                why = 5;
                return;
            }
            violations = Model.this.violations(then, world.begun == null);
            why = violations.isEmpty() ? 0 : violations.get(0).kind;
        }

        boolean change(Line line) {
            for (Row row : world.rows) {
                if (row.table != line.table || !line.conds.stream().allMatch(c -> c.value == null
                        ? c.sign == '=' && row.values.get(c.col) == null
                        : row.values.get(c.col) != null && holds(row.values.get(c.col), c.sign, c.value))) {
                    continue;
                }
                found++;
                if (line.act.equals("delete")) {
                    goers.put(row.number, 0);
                }
                line.sets.forEach((c, v) -> wish(row, c, v));
            }
            go();
            // A fixed point by brute force: until a whole round adds no wish.
            for (int had = -1; had != size(); ) {
                had = size();
                world.rows.stream().filter(r -> !goers.containsKey(r.number)).forEach(this::adapt);
            }
            if (wished.values().stream().anyMatch(s -> s.size() > 1)) {
                return false;
            }
            for (Row row : world.rows) {
                if (!goers.containsKey(row.number)) {
                    List<Integer> values = new ArrayList<>(row.values);
                    for (int c = 0; c < values.size(); c++) {
                        if (wished.containsKey(List.of(row.number, c))) {
                            values.set(c, wished.get(List.of(row.number, c)).iterator().next());
                        }
                    }
                    changed += values.equals(row.values) ? 0 : 1;
                    then.add(new Row(row.number, row.table, values));
                }
            }
            touched = goers.size() + changed;
            return true;
        }

        void go() {
            for (boolean more = true; more; ) {
                more = false;
                for (Row row : world.rows) {
                    for (Ref f : plan.refs) {
                        Row to = target(world.rows, row, f);
                        if (to != null && f.gone == 1 && goers.containsKey(to.number)) {
                            int steps = goers.get(to.number) + 1;
                            if (goers.getOrDefault(row.number, 1000) > steps) {
                                goers.put(row.number, steps);
                                more = true;
                            }
                        }
                    }
                }
            }
        }

        int size() {
            return wished.values().stream().mapToInt(Set::size).sum();
        }

        void wish(Row row, int c, Integer v) {
            wished.computeIfAbsent(List.of(row.number, c), x -> new HashSet<>()).add(v);
        }

        void adapt(Row row) {
            for (Ref f : plan.refs) {
                Row to = target(world.rows, row, f);
                if (to == null) {
                    continue;
                }
                List<Integer> keyed = plan.keys.get(f.key).cols;
                int on = f.gone;
                if (!goers.containsKey(to.number)) {
                    on = 0;
                    for (int i = 0; i < keyed.size(); i++) {
                        for (Integer v : wished.getOrDefault(List.of(to.number, keyed.get(i)), Set.of())) {
                            if (!java.util.Objects.equals(v, to.values.get(keyed.get(i)))) {
                                on = f.changed;
                                if (on == 1) {
                                    wish(row, f.cols.get(i), v);
                                }
                            }
                        }
                    }
                }
                for (int c : f.cols) {
                    if (on >= 2) {
                        wish(row, c, on == 2 ? null : plan.defaults.get(List.of(f.table, c)));
                    }
                }
            }
        }
    }

    int live(Line line) {
        switch (line.act) {
            case "begin":
                if (world.begun != null) {
                    return 11;
                }
                world = new World(world.rows, world.made, world.rows);
                return 0;
            case "commit":
                if (world.begun == null) {
                    return 21;
                }
                if (!violations(world.rows, true).isEmpty()) {
                    return 22;
                }
                world = new World(world.rows, world.made, null);
                return 0;
            case "back":
                if (world.begun == null) {
                    return 31;
                }
                world = new World(world.begun, world.made, null);
                return 0;
            default:
                Verdict v = new Verdict(line);
                if (v.why == 0) {
                    world = new World(v.then, v.made, world.begun);
                }
                return v.why;
        }
    }

    void keep(World ahead) {
        undos.push(ahead);
        if (undos.size() > 8) {
            undos.removeLast();
        }
    }

    // ---- the face ----
    int feed(int a, int b, int c, int d, int e) {
        if (tape.length + 20 > 940) {
            return NONE;
        }
        java.nio.ByteBuffer more = java.nio.ByteBuffer.allocate(tape.length + 20);
        more.put(tape).putInt(a).putInt(b).putInt(c).putInt(d).putInt(e);
        tape = more.array();
        return tape.length;
    }

    boolean end(int n) {
        if (n < 0 || n > tape.length) {
            return false;
        }
        tape = Arrays.copyOf(tape, n);
        return true;
    }

    interface Reading {
        int read();
    }

    int reading(int less, Reading reading) {
        try {
            fault = 0;
            return reading.read();
        } catch (Fault f) {
            fault = f.kind;
            return less - f.place;
        } finally {
            tape = new byte[0];
        }
    }

    int schema() {
        return reading(-1, () -> {
            Plan p = new Plan();
            int lines = readSchema(p);
            plan = p;
            world = new World(List.of(), 0, null);
            sentence = null;
            undos.clear();
            return lines;
        });
    }

    int fault() {
        return fault;
    }

    int judge(boolean lives) {
        return reading(-2, () -> {
            Line line = readStatement();
            Verdict v = new Verdict(line);
            any = true;
            why = v.why;
            found = v.found;
            changed = v.why == 5 ? 0 : v.changed;
            goers.clear();
            goers.putAll(v.goers);
            violations = v.violations;
            if (v.why != 0) {
                return -1000 - v.why;
            }
            if (lives) {
                keep(world);
                world = new World(v.then, v.made, world.begun);
            }
            return v.touched;
        });
    }

    int statement() {
        return judge(true);
    }

    int would() {
        return judge(false);
    }

    int judged(int what) {
        return !any ? NONE : what == 0 ? why : what == 1 ? found : what == 2 ? goers.size() : what == 3 ? changed : NONE;
    }

    int goes(int k) {
        return k < 0 || k >= goers.size() ? NONE : new ArrayList<>(goers.keySet()).get(k);
    }

    int steps(int row) {
        return goers.getOrDefault(row, NONE);
    }

    int violated(int k, int what) {
        if (k < 0 || k >= violations.size()) {
            return NONE;
        }
        Violation v = violations.get(k);
        return what == 0 ? v.kind : what == 1 ? v.number : what == 2 ? v.row : NONE;
    }

    int act(String act) {
        World ahead = world;
        int no = live(new Line(act, -1, null, null, null));
        if (no == 0) {
            keep(ahead);
        }
        return no;
    }

    int begin() {
        return act("begin") == 0 ? 0 : 1;
    }

    int commit() {
        violations = List.of();
        int no = act("commit");
        if (no == 22) {
            violations = violations(world.rows, true);
        }
        return no == 0 ? 0 : no - 20;
    }

    int back() {
        return act("back") == 0 ? 0 : 1;
    }

    int undo() {
        if (undos.isEmpty()) {
            return NONE;
        }
        world = undos.pop();
        return undos.size();
    }

    int now(int what) {
        switch (what) {
            case 0:
                return world.rows.size();
            case 1:
                return world.made;
            case 2:
                return world.begun == null ? 0 : 1;
            case 3:
                return violations(world.rows, true).size();
            default:
                return NONE;
        }
    }

    List<Row> of(int t) {
        List<Row> some = new ArrayList<>();
        for (Row row : world.rows) {
            if (row.table == t) {
                some.add(row);
            }
        }
        return some;
    }

    int rows(int t) {
        return t < 0 || t >= plan.tables.size() ? NONE : of(t).size();
    }

    int row(int t, int k) {
        return k < 0 || k >= of(t).size() ? NONE : of(t).get(k).number;
    }

    Row numbered(int number) {
        for (Row row : world.rows) {
            if (row.number == number) {
                return row;
            }
        }
        return null;
    }

    int tableOf(int row) {
        Row r = numbered(row);
        return r == null ? NONE : r.table;
    }

    int cell(int row, int c) {
        Row r = numbered(row);
        if (r == null || c < 0 || c >= r.values.size()) {
            throw new NoSuchElementException();
        }
        return r.values.get(c) == null ? NONE : r.values.get(c);
    }

    int refers(int row, int ref) {
        Row r = numbered(row);
        if (r == null || ref < 0 || ref >= plan.refs.size()) {
            return NONE;
        }
        Row to = target(world.rows, r, plan.refs.get(ref));
        return to == null ? NONE : to.number;
    }

    int referred(int row) {
        if (numbered(row) == null) {
            return NONE;
        }
        int count = 0;
        for (Row r : world.rows) {
            for (Ref f : plan.refs) {
                Row to = target(world.rows, r, f);
                count += to != null && to.number == row ? 1 : 0;
            }
        }
        return count;
    }

    int table(int t, int what) {
        if (t < 0 || t >= plan.tables.size()) {
            return NONE;
        }
        int bits = 0;
        switch (what) {
            case 0:
                return plan.tables.get(t).cols.size();
            case 1:
                for (int k = 0; k < plan.keys.size(); k++) {
                    bits |= plan.keys.get(k).table == t ? 1 << k : 0;
                }
                return bits;
            case 2:
                for (int f = 0; f < plan.refs.size(); f++) {
                    bits |= plan.refs.get(f).table == t ? 1 << f : 0;
                }
                return bits;
            case 3:
                for (int f = 0; f < plan.refs.size(); f++) {
                    bits |= plan.refs.get(f).other == t ? 1 << f : 0;
                }
                return bits;
            case 4:
                Set<Integer> perils = new HashSet<>();
                peril(t, perils);
                return perils.stream().mapToInt(p -> 1 << p).sum();
            default:
                return NONE;
        }
    }

    void peril(int t, Set<Integer> perils) {
        for (Ref f : plan.refs) {
            if (f.gone == 1 && f.other == t && perils.add(f.table)) {
                peril(f.table, perils);
            }
        }
    }

    int col(int t, int c, int what) {
        if (t < 0 || t >= plan.tables.size() || c < 0 || c >= plan.tables.get(t).cols.size() || what < 0 || what > 3) {
            throw new NoSuchElementException();
        }
        int bits = 0;
        switch (what) {
            case 0:
                return plan.defaults.getOrDefault(List.of(t, c), NONE);
            case 1:
                return plan.needed(t, c) ? 1 : 0;
            case 2:
                for (int k = 0; k < plan.keys.size(); k++) {
                    bits |= plan.keys.get(k).table == t && plan.keys.get(k).cols.contains(c) ? 1 << k : 0;
                }
                return bits;
            default:
                for (int f = 0; f < plan.refs.size(); f++) {
                    bits |= plan.refs.get(f).table == t && plan.refs.get(f).cols.contains(c) ? 1 << f : 0;
                }
                return bits;
        }
    }

    int ref(int f, int what) {
        if (f < 0 || f >= plan.refs.size() || what < 0 || what > 6) {
            return NONE;
        }
        Ref r = plan.refs.get(f);
        return new int[] {r.table, r.other, r.key, r.gone, r.changed, r.full ? 1 : 0, r.late ? 1 : 0}[what];
    }

    int order() {
        // All orders, the least first: the first that will do is it.
        List<Integer> best = permute(new ArrayList<>());
        if (best == null) {
            return NONE;
        }
        order = best;
        return best.size();
    }

    List<Integer> permute(List<Integer> ahead) {
        if (ahead.size() == plan.tables.size()) {
            for (Ref f : plan.refs) {
                if (ahead.indexOf(f.other) > ahead.indexOf(f.table)) {
                    return null;
                }
            }
            return ahead;
        }
        for (int t = 0; t < plan.tables.size(); t++) {
            if (!ahead.contains(t)) {
                List<Integer> more = new ArrayList<>(ahead);
                more.add(t);
                List<Integer> whole = permute(more);
                if (whole != null) {
                    return whole;
                }
            }
        }
        return null;
    }

    int orderAt(int k) {
        return k < 0 || k >= order.size() ? NONE : order.get(k);
    }

    int mean(int t, int c, int what) {
        int sum = 0;
        int count = 0;
        for (Row row : of(t)) {
            if (c >= 0 && c < row.values.size() && row.values.get(c) != null) {
                sum += row.values.get(c);
                count++;
            }
        }
        if (count == 0 || what < 0 || what > 1) {
            throw new NoSuchElementException();
        }
        int g = java.math.BigInteger.valueOf(sum).gcd(java.math.BigInteger.valueOf(count)).intValue();
        return (what == 0 ? sum : count) / g;
    }

    int tag(int row) {
        Row r = numbered(row);
        if (r == null) {
            return NONE;
        }
        StringBuilder s = new StringBuilder(plan.tables.get(r.table).name).append(' ').append(row);
        r.values.forEach(v -> s.append(' ').append(v == null ? "-" : v.toString()));
        tag = s.toString();
        return tag.length();
    }

    int byteAt(int i) {
        return i < 0 || i >= tag.length() ? NONE : tag.charAt(i);
    }

    int dice;

    int draw(int n) {
        dice = dice * 1103515245 + 12345;
        return (dice >>> 8) % n;
    }

    int drawn(int n, int seed) {
        if (n < 1 || n > 40) {
            return NONE;
        }
        World ahead = world;
        int done = 0;
        dice = seed;
        for (int i = 0; i < n && !plan.tables.isEmpty(); i++) {
            done += drawOne() ? 1 : 0;
        }
        if (done > 0) {
            keep(ahead);
        }
        return done;
    }

    boolean drawOne() {
        int act = draw(6);
        int t = draw(plan.tables.size());
        int cols = plan.tables.get(t).cols.size();
        if (act < 3) {
            List<Integer> values = new ArrayList<>();
            for (int c = 0; c < cols; c++) {
                int v = draw(5);
                values.add(v == 4 ? null : Integer.valueOf(v));
            }
            return live(new Line("insert", t, values, Map.of(), List.of())) == 0;
        }
        if (act == 3) {
            int c = draw(cols);
            int v = draw(4);
            return live(new Line("delete", t, List.of(), Map.of(), List.of(new Cond(c, '=', v)))) == 0;
        }
        if (act == 4) {
            int c = draw(cols);
            int v = draw(4);
            int w = draw(4);
            return live(new Line("set", t, List.of(), Map.of(c, w), List.of(new Cond(c, '=', v)))) == 0;
        }
        if (world.begun == null) {
            return live(new Line("begin", -1, null, null, null)) == 0;
        }
        return live(new Line("commit", -1, null, null, null)) == 0 || live(new Line("back", -1, null, null, null)) == 0;
    }

    int book(int lives) {
        if (lives != 0 && lives != 1) {
            return -1000;
        }
        return reading(-2, () -> {
            List<Line> lines = readBook();
            World ahead = world;
            int done = 0;
            int no = 0;
            while (done < lines.size() && no == 0) {
                no = live(lines.get(done));
                done += no == 0 ? 1 : 0;
            }
            told = new int[] {no, done, world.rows.size(), violations(world.rows, true).size()};
            if (lives == 0) {
                world = ahead;
            } else if (done > 0) {
                keep(ahead);
            }
            return no == 0 ? NONE : done;
        });
    }

    int told(int what) {
        return told == null || what < 0 || what > 3 ? NONE : told[what];
    }

    int onesKept;

    int sentence() {
        return reading(-1, () -> {
            ones = 0;
            Reader r = new Reader(200);
            Predicate<Row> read = readCond(r, 1);
            r.end();
            sentence = read;
            onesKept = ones;
            return ones;
        });
    }

    int said(int k) {
        if (sentence == null || k < -1) {
            return NONE;
        }
        List<Row> some = new ArrayList<>();
        for (Row row : world.rows) {
            if (sentence.test(row)) {
                some.add(row);
            }
        }
        return k == NONE ? some.size() : k < some.size() ? some.get(k).number : NONE;
    }

    boolean image(int k) {
        if (k < 0 || k > 1) {
            return false;
        }
        images[k] = new Object[] {plan, world, sentence};
        return true;
    }

    @SuppressWarnings("unchecked")
    boolean restore(int k) {
        if (k < 0 || k > 1 || images[k] == null) {
            return false;
        }
        Object[] kept = (Object[]) images[k];
        plan = (Plan) kept[0];
        world = (World) kept[1];
        sentence = (Predicate<Row>) kept[2];
        undos.clear();
        return true;
    }

    int count(int what) {
        return what == 0 ? plan.tables.size() : what == 1 ? plan.keys.size() : what == 2 ? plan.refs.size()
                : what == 3 ? plan.checks.size() : what == 4 ? tape.length : NONE;
    }
}
