import java.lang.reflect.Member;
import java.lang.reflect.Method;
import java.lang.reflect.Modifier;
import java.nio.file.Files;
import java.nio.file.Path;
import java.util.ArrayList;
import java.util.HashSet;
import java.util.List;
import java.util.Set;
import java.util.TreeSet;
import java.util.regex.Pattern;

/** The rules of LANGUAGE.md that a look at the source and at the class can tell. */
public final class LanguageTest {
    private static final Path SOURCE = Path.of("src/main/java/WaterGrid.java");
    private static final String FACE = """
            int feed(int,int,int,int,int)
            boolean end(int)
            int read()
            int fault()
            int pipe(int,int,boolean)
            boolean stone(int,int)
            int tell(int,int,boolean,int)
            boolean put(int,int,boolean)
            void turn(int)
            boolean drain(int,int,int)
            int undo()
            long joins(int)
            long bars(int)
            long choices(int)
            int states(int)
            int state(int,int,int)
            long ways(int,int,int)
            long wet(int,int)
            long reaches(int,int)
            long parted(int,int)
            long pair(int,int,int)
            int tried(int,int)
            int just(int)
            long likeliest(int,boolean)
            int between(int,int,boolean)
            boolean alike()
            long value(int,int,boolean)
            long barred(int,int,boolean)
            long would(int,int,boolean,int,int,int,boolean)
            long wetness(int,int,boolean)
            long depth(int,int,boolean)
            int least(int,int)
            long mean(boolean)
            int half()
            long decides(int,int,boolean,int)
            int leader(int,int)
            int rank(int,int,boolean,int,int)
            int toOpen()
            int toShut()
            int drawn(int,int,int,int)
            int oneByOne(int,boolean)
            int keep()
            int compare()
            int beats()
            int write()
            int octet(int)
            int count(int)
            """;

    private final Check check = new Check();

    public static void main(String[] args) throws Exception {
        LanguageTest test = new LanguageTest();
        test.face();
        test.source(Files.readString(SOURCE));
        test.check.finish("language");
    }

    private void face() {
        Set<String> got = new TreeSet<>();
        Set<String> names = new HashSet<>();
        for (Method m : WaterGrid.class.getDeclaredMethods()) {
            if (!Modifier.isPublic(m.getModifiers())) continue;
            StringBuilder types = new StringBuilder();
            for (Class<?> type : m.getParameterTypes()) types.append(types.isEmpty() ? "" : ",").append(type.getName());
            got.add(m.getReturnType().getName() + " " + m.getName() + "(" + types + ")");
            names.add(m.getName());
        }
        check.due("rule 1, the face", got, new TreeSet<>(List.of(FACE.trim().split("\n"))));
        List<Class<?>> classes = new ArrayList<>(List.of(WaterGrid.class.getDeclaredClasses()));
        check.due("rule 11, classes", classes.size() < 12, true);
        for (Class<?> inner : classes) {
            check.due("rule 1, static " + inner, Modifier.isStatic(inner.getModifiers()), true);
            check.due("rule 1, not public " + inner, inner.getModifiers() & (Modifier.PUBLIC | Modifier.PROTECTED), 0);
        }
        classes.add(WaterGrid.class);
        for (Class<?> any : classes) members(any, names);
    }

    private void members(Class<?> any, Set<String> names) {
        int fields = 0;
        for (var field : any.getDeclaredFields()) {
            if (Modifier.isStatic(field.getModifiers())) check.due("rule 5, final " + field, Modifier.isFinal(field.getModifiers()), true);
            else fields++;
            if (any == WaterGrid.class && !field.getName().equals("NONE")) hidden(field);
        }
        check.due("rule 11, fields of " + any, fields <= 20, true);
        for (Method m : any.getDeclaredMethods()) {
            check.due("rule 11, parameters of " + m, m.getParameterCount() <= 7, true);
            if (Modifier.isPublic(m.getModifiers())) continue;
            check.due("rule 1, the name of " + m, names.contains(m.getName()), false);
            if (any == WaterGrid.class) hidden(m);
        }
    }

    private void hidden(Member member) { check.due("rule 1, private " + member, Modifier.isPrivate(member.getModifiers()), true); }

    private void source(String text) {
        String bare = text.replaceAll("(?s)/\\*.*?\\*/", "").replaceAll("//[^\n]*", "").replaceAll("\"[^\"\n]*\"", "\"\"");
        check.due("rule 4, imports", bare.replaceAll("(?s).*?(import [^;]*;)|.+", "$1").trim(), "import java.util.NoSuchElementException;");
        String[] none = {"->", "::", "\\btry\\b", "\\bcatch\\b", "\\bfinally\\b", "\\bsynchronized\\b", "\\bassert\\b", "\\bwhile\\b",
            "\\bvar\\b", "\\bdouble\\b", "\\bfloat\\b", "Exact\\(", "\\bpackage\\b", "System\\.(?!arraycopy)", "static \\{",
            "\"\"\\s*\\+", "\\+\\s*\"\"", "for \\(;", "String\\[\\]", "\\.equals\\(", "hashCode", "toString"};
        for (String pattern : none) check.due("no " + pattern, Pattern.compile(pattern).matcher(bare).find(), false);
        var thrown = Pattern.compile("throw new (\\w+)\\(\"\"\\);").matcher(bare);
        while (thrown.find()) {
            check.due("rule 6, " + thrown.group(1), List.of("IllegalStateException", "IllegalArgumentException",
                    "IndexOutOfBoundsException", "NoSuchElementException").contains(thrown.group(1)), true);
        }
        check.due("rule 6, every throw", bare.replaceAll("throw new \\w+\\(\"\"\\);", "").contains("throw "), false);
        for (char sign : text.toCharArray()) if (sign > 126) check.due("rule 4, sign", sign, "1 to 127");
        lengths(text.split("\n"));
    }

    private void lengths(String[] lines) {
        int start = 0;
        for (int i = 0; i < lines.length; i++) {
            if (lines[i].isBlank()) start = i;
            check.due("rule 11, lines behind line " + start, i - start <= 60, true);
        }
    }
}
