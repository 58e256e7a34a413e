import java.lang.reflect.Field;
import java.lang.reflect.Member;
import java.lang.reflect.Method;
import java.lang.reflect.Modifier;
import java.nio.charset.StandardCharsets;
import java.nio.file.Files;
import java.nio.file.Path;
import java.util.ArrayList;
import java.util.HashSet;
import java.util.List;
import java.util.Set;
import java.util.regex.Matcher;
import java.util.regex.Pattern;

/** What can be seen of the rules of LANGUAGE.md in the source and by reflection, and the document's public face. */
public final class RulesTest {
    // "The public face" of the document, sorted, without the names of the parameters.
    static final String FACE = "boolean end(int)|boolean image(int)|boolean restore(int)|int back()|int begin()|int book(int)"
            + "|int byteAt(int)|int cell(int,int) throws java.util.NoSuchElementException"
            + "|int col(int,int,int) throws java.util.NoSuchElementException|int commit()|int count(int)|int drawn(int,int)|int fault()"
            + "|int feed(int,int,int,int,int)|int goes(int)|int judged(int)|int mean(int,int,int) throws java.util.NoSuchElementException"
            + "|int now(int)|int order()|int orderAt(int)|int ref(int,int)|int referred(int)|int refers(int,int)|int row(int,int)"
            + "|int rows(int)|int said(int)|int schema()|int sentence()|int statement()|int steps(int)|int table(int,int)"
            + "|int tableOf(int)|int tag(int)|int told(int)|int undo()|int violated(int,int)|int would()";

    static int wrong;

    static void must(boolean so, String what) {
        if (!so) {
            wrong++;
            System.out.println("rule broken: " + what);
        }
    }

    public static void main(String[] args) throws Exception {
        String source = Files.readString(Path.of("src/main/java/FollowingRefs.java"), StandardCharsets.ISO_8859_1);
        face();
        words(source);
        methods(source);
        System.out.println("RulesTest: " + wrong + " wrong");
        if (wrong > 0) {
            System.exit(1);
        }
    }

    static void face() {
        Class<?> c = FollowingRefs.class;
        must(Modifier.isFinal(c.getModifiers()) && Modifier.isPublic(c.getModifiers()), "1: public and final");
        Set<String> names = new HashSet<>();
        for (Method m : c.getDeclaredMethods()) {
            must(Modifier.isPublic(m.getModifiers()) || Modifier.isPrivate(m.getModifiers()), "1: " + m);
            must(m.getParameterCount() <= 7, "11: " + m);
            if (Modifier.isPublic(m.getModifiers())) {
                names.add(m.getName());
            }
        }
        List<String> members = new ArrayList<>();
        for (Method m : c.getDeclaredMethods()) {
            if (Modifier.isPublic(m.getModifiers())) {
                members.add(m.toGenericString().replace("public ", "").replace("FollowingRefs.", ""));
            }
        }
        members.sort(null);
        must(String.join("|", members).equals(FACE), "the public face: " + members);
        must(c.getDeclaredConstructors().length == 1 && c.getConstructors().length == 1
                && c.getConstructors()[0].getParameterCount() == 0, "the public face: FollowingRefs()");
        must(c.getFields().length == 1 && c.getFields()[0].toGenericString().equals(
                "public static final int FollowingRefs.NONE"), "the public face: NONE");
        List<Class<?>> all = new ArrayList<>(List.of(c.getDeclaredClasses()));
        must(all.size() <= 12, "11: classes");
        for (Class<?> inner : all) {
            must(Modifier.isStatic(inner.getModifiers()) && !Modifier.isPublic(inner.getModifiers())
                    && !Modifier.isProtected(inner.getModifiers()), "1: " + inner);
            for (Method m : inner.getDeclaredMethods()) {
                must(!names.contains(m.getName()), "1: " + m);
                must(m.getParameterCount() <= 7, "11: " + m);
            }
        }
        all.add(c);
        for (Class<?> each : all) {
            int fields = 0;
            for (Field f : each.getDeclaredFields()) {
                fields += Modifier.isStatic(f.getModifiers()) ? 0 : 1;
                must(!Modifier.isStatic(f.getModifiers()) || Modifier.isFinal(f.getModifiers()), "5: " + f);
            }
            must(fields <= 20, "11: fields of " + each);
        }
        for (Member m : c.getDeclaredFields()) {
            must(Modifier.isPrivate(m.getModifiers()) || m.getName().equals("NONE"), "1: " + m);
        }
    }

    static void words(String source) {
        for (int i = 0; i < source.length(); i++) {
            must(source.charAt(i) < 127, "4: a sign above 126 at " + i);
        }
        String code = source.replaceAll("(?s)/\\*.*?\\*/", "").replaceAll("//[^\n]*", "");
        for (String no : List.of("->", "::", "\\bcatch\\b", "\\bfinally\\b", "\\bsynchronized\\b", "\\bassert\\b",
                "\\bMath\\.[a-z]+Exact", "\\bint\\[\\]\\[\\]", "\\bobject\\b", "\\bString\\.", "\\bSystem\\.(?!arraycopy)",
                "\\binstanceof\\b", "\\bvar\\b", "\\brecord\\b", "\\bstatic \\{", "\\.hashCode", "\\.toString")) {
            must(!Pattern.compile(no).matcher(code).find(), "the source has " + no);
        }
        Matcher m = Pattern.compile("import ([^;]*);").matcher(code);
        while (m.find()) {
            must(Set.of("java.util.Arrays", "java.util.NoSuchElementException").contains(m.group(1)), "4: " + m.group());
        }
        // What a call makes is counted: nothing is made but by constructors and what throws.
        for (String line : code.split("\n")) {
            boolean made = line.matches(".*\\bnew\\b.*") && !line.contains("throw new");
            must(!made || line.matches(" +(private )?final .*= new .*") || line.contains("undos[i] = new State();")
                    || line.contains("images[i] = new Image();"), "12: " + line);
        }
    }

    static void methods(String source) {
        String[] lines = source.split("\n");
        int start = -1;
        String name = "";
        for (int i = 0; i < lines.length; i++) {
            if (lines[i].matches(" {4}( {4})?[a-z][^=;]*\\) (throws \\w+ )?\\{")) {
                start = i;
                name = lines[i];
            }
            if (start >= 0 && lines[i].matches(" {4}( {4})?\\}")) {
                must(i - start <= 60, "11: long " + name);
                start = -1;
            }
        }
    }
}
