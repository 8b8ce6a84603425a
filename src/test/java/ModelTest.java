import java.lang.reflect.InvocationTargetException;
import java.lang.reflect.Method;
import java.util.ArrayList;
import java.util.List;
import java.util.Random;

/** Runs of calls by chance, on the class and on the model: every answer, every exception must be alike. */
public final class ModelTest {
    private static final int RUNS = 600;
    private static final int CALLS = 90;
    /** What an object answers behind so many calls is free. */
    private static final int MOST_CALLS = 512;
    /** The model tries every choice: grids with more free pipes are made smaller before it is asked. */
    private static final int MOST_FREE = 9;
    private static final List<String> READERS = List.of("feed", "end", "read");
    private static final List<String> LIGHT = List.of("pipe", "stone", "tell", "put", "turn", "undo", "count", "write",
            "octet", "fault", "drawn", "oneByOne", "between", "drain");

    private final Random random;
    private final WaterGrid real = new WaterGrid();
    private final Model model = new Model();
    private final List<String> told = new ArrayList<>();

    private ModelTest(long seed) { random = new Random(seed); }

    public static void main(String[] args) throws Exception {
        int runs = args.length > 0 ? Integer.parseInt(args[0]) : RUNS;
        long first = args.length > 1 ? Long.parseLong(args[1]) : 1;
        for (long seed = first; seed < first + runs; seed++) {
            if (!new ModelTest(seed).passes()) {
                System.out.println("the run with seed " + seed + " went wrong");
                System.exit(1);
            }
        }
        System.out.println("the class answers as the model in " + runs + " runs");
    }

    private static List<Method> face() {
        List<Method> methods = new ArrayList<>();
        for (Method m : Model.class.getDeclaredMethods()) {
            if (java.lang.reflect.Modifier.isPrivate(m.getModifiers()) || m.isSynthetic()) continue;
            methods.add(m);
        }
        methods.sort((a, b) -> a.getName().compareTo(b.getName()));
        return methods;
    }

    private boolean passes() throws Exception {
        List<Method> face = face();
        if (face.size() != 47) throw new IllegalStateException("the face has 47 methods, not " + face.size());
        if (!readSome(random.nextInt(5) > 0)) return false;
        for (int i = 0; i < CALLS; i++) {
            Method method = face.get(random.nextInt(face.size()));
            if (READERS.contains(method.getName())) {
                if (random.nextInt(3) == 0 && !readSome(random.nextBoolean())) return false;
                continue;
            }
            if (model.count(2) > MOST_FREE && !LIGHT.contains(method.getName()) && !(tooMany(method.getName()))) {
                if (!same("tell", freePipe(1 + random.nextInt(2)))) return false;
                continue;
            }
            if (!same(method.getName(), arguments(method))) return false;
        }
        return model.count(2) > MOST_FREE || sweep();
    }

    /** All states of all rows, one behind the last, too; and all that is told by so many open pipes. */
    private boolean sweep() throws Exception {
        for (int row = 0; row < model.count(1); row++) {
            int states = model.states(row);
            for (int k = 0; k <= states; k++) {
                for (int x = 0; x < model.count(0); x++) if (!same("state", row, k, x)) return false;
                if (!same("ways", row, k, random.nextInt(5))) return false;
            }
            if (!same("likeliest", row, false) || !same("likeliest", row, true)) return false;
            for (int n = 0; n < 6; n++) if (!same("parted", row, n) || !same("reaches", row, n)) return false;
        }
        for (int k = 0; k <= model.count(2); k++) {
            if (!same("joins", k) || !same("bars", k) || !same("choices", k) || !same("tried", k, k)) return false;
        }
        return same("just", -1) && same("alike") && same("mean", true) && same("mean", false);
    }

    private boolean tooMany(String name) {
        return (name.equals("tried") || name.equals("just")) && model.count(2) > 12;
    }

    private Object[] freePipe(int how) {
        List<Model.Pipe> free = model.plan.withStatus(0);
        Model.Pipe p = free.get(random.nextInt(free.size()));
        return new Object[] {p.x(), p.y(), p.down(), how};
    }

    private Object[] arguments(Method method) {
        Class<?>[] types = method.getParameterTypes();
        Object[] values = new Object[types.length];
        for (int i = 0; i < types.length; i++) {
            values[i] = types[i] == boolean.class ? (Object) random.nextBoolean() : (Object) number();
        }
        String name = method.getName();
        if (List.of("value", "barred", "wetness", "depth", "leader").contains(name)) chance(values, 0);
        if (name.equals("would")) chance(values, 4);
        if (name.equals("rank")) chance(values, 3);
        if (name.equals("drain") || name.equals("drawn")) {
            values[0] = random.nextInt();
            chance(values, 1);
        }
        if (name.equals("oneByOne")) values[0] = random.nextInt();
        if (name.equals("least")) {
            values[1] = random.nextInt(104) - 1;
            values[0] = random.nextInt(104) - 1;
        }
        if (name.equals("octet")) values[0] = random.nextInt(95) - 2;
        if (name.equals("wet")) values[0] = random.nextInt(34) - 1;
        if (name.equals("count")) values[0] = random.nextInt(10) - 1;
        if (List.of("decides", "rank", "would").contains(name) && random.nextInt(4) > 0 && model.count(2) > 0) {
            System.arraycopy(freePipe(0), 0, values, 0, 3);
        }
        return values;
    }

    private int number() {
        int kind = random.nextInt(60);
        if (kind == 0) return Integer.MIN_VALUE;
        if (kind == 1) return Integer.MAX_VALUE;
        if (kind < 5) return random.nextInt(40) - 5;
        return random.nextInt(7) - 1;
    }

    private void chance(Object[] values, int at) {
        int b = random.nextInt(20) == 0 ? random.nextInt(10) - 1 : 1 + random.nextInt(6);
        values[at + 1] = b;
        values[at] = random.nextInt(20) == 0 ? random.nextInt(10) - 2 : random.nextInt(Math.max(b, 0) + 1);
    }

    // ---- texts

    private boolean readSome(boolean right) throws Exception {
        String text = text();
        if (!right) text = spoiled(text);
        return readText(text.length() > 380 ? text.substring(0, 380) : text);
    }

    private boolean readText(String text) throws Exception {
        for (int i = 0; i < text.length() || i == 0; i += 20) {
            Object[] fours = new Object[5];
            for (int j = 0; j < 5; j++) {
                int four = 0;
                for (int n = i + 4 * j; n < i + 4 * j + 4; n++) four = four << 8 | (n < text.length() ? text.charAt(n) : 0);
                fours[j] = four;
            }
            if (!same("feed", fours)) return false;
        }
        return same("end", text.length() + 900) && same("end", -1) && same("end", text.length())
                && same("read") && same("fault") && same("count", 2);
    }

    private String text() {
        int columns = 1 + random.nextInt(5);
        int rows = 1 + random.nextInt(5);
        StringBuilder text = new StringBuilder();
        text.append(blank()).append("grid").append(blank()).append(columns).append(' ').append(blank()).append(rows);
        text.append(blank()).append(';').append(blank());
        Model.Plan plan = new Model.Plan();
        plan.columns = columns;
        plan.rows = rows;
        List<Model.Pipe> pipes = plan.pipes();
        java.util.Collections.shuffle(pipes, random);
        int some = random.nextInt(pipes.size() + 1);
        for (int i = 0; i < some && text.length() < 340; i++) {
            Model.Pipe p = pipes.get(i);
            text.append(random.nextBoolean() ? "open" : "shut").append(blank()).append(p.x()).append(' ').append(p.y());
            text.append(blank()).append(p.down() ? "down" : "right").append(blank()).append(';').append(blank());
        }
        int stones = random.nextInt(3);
        for (int i = 0; i < stones; i++) {
            text.append("stone ").append(random.nextInt(columns)).append('\n').append(random.nextInt(rows)).append(";");
        }
        return text.toString();
    }

    private String blank() {
        String[] blanks = {"", " ", " ", "\t", "\n", "  "};
        return blanks[random.nextInt(blanks.length)];
    }

    private String spoiled(String text) {
        StringBuilder next = new StringBuilder(text);
        int times = 1 + random.nextInt(2);
        for (int i = 0; i < times && next.length() > 0; i++) {
            int at = random.nextInt(next.length());
            switch (random.nextInt(5)) {
                case 0 -> next.deleteCharAt(at);
                case 1 -> next.insert(at, "0 5;x9\rgridopenrightdown".charAt(random.nextInt(24)));
                case 2 -> next.setLength(at);
                case 3 -> next.setCharAt(at, (char) random.nextInt(256));
                default -> next.append(text.substring(text.indexOf(';') + 1));
            }
        }
        return next.toString();
    }

    // ---- the two compared

    private boolean same(String name, Object... values) throws Exception {
        if (told.size() == MOST_CALLS) return true;
        String want = answer(model, name, values);
        String got = answer(real, name, values);
        told.add(name + java.util.Arrays.toString(values) + " -> " + got);
        if (want.equals(got)) return true;
        for (String line : told) System.out.println(line);
        System.out.println("due is " + want);
        return false;
    }

    private static String answer(Object object, String name, Object[] values) throws Exception {
        for (Method method : object.getClass().getDeclaredMethods()) {
            if (!method.getName().equals(name) || method.getParameterCount() != values.length) continue;
            method.setAccessible(true);
            try {
                return String.valueOf(method.invoke(object, values));
            } catch (InvocationTargetException e) {
                return e.getCause().getClass().getName();
            }
        }
        throw new IllegalStateException("there is no " + name);
    }
}
