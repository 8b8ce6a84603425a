import java.lang.reflect.InvocationTargetException;
import java.lang.reflect.Method;
import java.lang.reflect.Modifier;
import java.util.Arrays;

/** An object is used for 512 calls: the last one of them answers as it does on an object that is not so old. */
public final class UseTest {
    private static final int CALLS = 512;
    private static final int[][] NUMBERS = {{0, 0, 0, 0, 0}, {1, 0, 1, 1, 2}, {0, 1, 2, 1, 3}, {0, 1, 0, 1, 2}, {1, 2, 1, 2, 6}, {-1, 9, -1, 9, 9}};

    private final Check check = new Check();
    private int used;

    public static void main(String[] args) throws Exception {
        UseTest all = new UseTest();
        all.check.due("the document says so", new Doc().says("An object is used for at most 512 calls after it has been made"), true);
        int calls = 0;
        for (Method method : WaterGrid.class.getDeclaredMethods()) {
            if (!Modifier.isPublic(method.getModifiers())) continue;
            calls++;
            for (int[] numbers : NUMBERS) {
                all.lastOf(method, numbers, false);
                all.lastOf(method, numbers, true);
            }
        }
        all.check.due("calls of the face", calls, 47);
        all.sameAgain();
        all.check.finish("512 calls");
    }

    /** Three by three, some told, two acts, kept, written, a text on the tape. */
    private WaterGrid ready() {
        WaterGrid g = new WaterGrid();
        used = 0;
        feed(g, "grid 3 3;stone 2 0; ");
        g.read();
        g.tell(0, 0, false, 1);
        g.turn(2);
        g.keep();
        g.write();
        feed(g, "grid 2 2;open 0 0 do");
        feed(g, "wn;                 ");
        used += 5;
        return g;
    }

    private void feed(WaterGrid g, String twenty) {
        int[] fours = new int[5];
        for (int i = 0; i < 20; i++) fours[i / 4] = fours[i / 4] << 8 | twenty.charAt(i);
        g.feed(fours[0], fours[1], fours[2], fours[3], fours[4]);
        used++;
    }

    private void lastOf(Method method, int[] numbers, boolean flag) throws Exception {
        WaterGrid old = ready();
        for (int i = 0; used < CALLS - 1; i++) wear(old, i);
        check.due("so many calls ahead of the last", used, CALLS - 1);
        Object[] values = arguments(method, numbers, flag);
        check.due(method.getName() + Arrays.toString(values), answer(old, method, values), answer(ready(), method, values));
    }

    /** Calls behind which the object is as it was; an act, and bytes on the tape, are taken back by the next call. */
    private void wear(WaterGrid g, int i) {
        boolean last = used == CALLS - 2;
        used++;
        switch (i % 16) {
            case 0: g.joins(i % 12); break;
            case 1: g.value(1, 6, true); break;
            case 2: g.leader(i % 5, 4); break;
            case 3: g.would(1, 0, false, 2, 1, 3, true); break;
            case 4: g.tried(5, i); break;
            case 5: g.drawn(i, 1, 2, 1); break;
            case 6: g.oneByOne(i, true); break;
            case 7: g.write(); break;
            case 8: g.keep(); break;
            case 9: Check.answer(() -> g.tell(9, 9, true, 1)); break;
            case 10: Check.answer(() -> g.drain(1, 1, 0)); break;
            case 11: g.end(-1); break;
            default:
                if (last) g.count(0);
                else takenBack(g, i);
        }
    }

    private void takenBack(WaterGrid g, int i) {
        used++;
        switch (i % 16) {
            case 12: g.turn(i % 3); break;
            case 13: g.drain(i, 1, 2); break;
            case 14: g.put(1, 1, true); break;
            default:
                g.feed(1, 2, 3, 4, 5);
                g.end(40);
                return;
        }
        g.undo();
    }

    private static Object[] arguments(Method method, int[] numbers, boolean flag) {
        Class<?>[] types = method.getParameterTypes();
        Object[] values = new Object[types.length];
        // From the last number on, as the last two are a chance where the call takes one.
        int next = numbers.length;
        for (int i = types.length - 1; i >= 0; i--) {
            if (types[i] == int.class) values[i] = numbers[--next];
            else values[i] = flag;
        }
        return values;
    }

    private static String answer(WaterGrid g, Method method, Object[] values) throws Exception {
        try {
            return String.valueOf(method.invoke(g, values));
        } catch (InvocationTargetException e) {
            return e.getCause().getClass().getName();
        }
    }

    /** One call 511 times: nothing is used up by that but what the document says. */
    private void sameAgain() {
        WaterGrid acts = new WaterGrid();
        for (int i = 1; i < CALLS; i++) acts.turn(2);
        check.due("undo behind 511 acts", acts.undo(), 15);
        WaterGrid tape = new WaterGrid();
        for (int i = 1; i < CALLS; i++) tape.feed(0, 0, 0, 0, 0);
        check.due("end behind 511 times fed", tape.end(400), true);
        WaterGrid texts = new WaterGrid();
        used = 0;
        for (int i = 0; i < 255; i++) {
            feed(texts, "grid 4 4;           ");
            texts.read();
            used++;
        }
        check.due("calls", used, 510);
        check.due("joins behind 255 texts", texts.joins(3), 4);
        WaterGrid written = new WaterGrid();
        for (int i = 1; i < CALLS; i++) written.write();
        check.due("octet behind 511 times written", written.octet(2), -1);
        WaterGrid kept = new WaterGrid();
        for (int i = 1; i < CALLS; i++) kept.keep();
        check.due("beats behind 511 times kept", kept.beats(), 0);
    }
}
