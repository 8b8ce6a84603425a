import java.util.EnumMap;
import java.util.Map;
import java.util.function.Function;
import java.util.function.Supplier;

/**
 * All that can be asked of an object. An object is made anew for each part, as some of what is asked changes it,
 * and as none may be used for more than 512 calls.
 */
final class Story {
    private static final int MOST_ACTS = 16;

    enum Part { FAULT, TAPE, NOW, TOLD, UNDONE }

    private final Supplier<WaterGrid> made;

    Story(Supplier<WaterGrid> made) { this.made = made; }

    /** What is told of an object behind a call, also if that throws. */
    Map<Part, String> behind(Function<WaterGrid, ?> call) {
        Map<Part, String> parts = new EnumMap<>(Part.class);
        parts.put(Part.FAULT, String.valueOf(used(call).fault()));
        parts.put(Part.TAPE, tape(used(call)));
        parts.put(Part.NOW, now(used(call)));
        parts.put(Part.TOLD, told(used(call)));
        StringBuilder undone = new StringBuilder();
        for (int times = 1; times <= MOST_ACTS + 1; times++) undone.append(undone(used(call), times));
        parts.put(Part.UNDONE, undone.toString());
        return parts;
    }

    private WaterGrid used(Function<WaterGrid, ?> call) {
        WaterGrid g = made.get();
        Check.answer(() -> call.apply(g));
        return g;
    }

    private static String tape(WaterGrid g) {
        int length = g.feed(0, 0, 0, 0, 0) - 20;
        if (length < 0) length = 400;
        while (length > 380 && !g.end(length)) length--;
        g.end(length);
        return length + " " + Check.answer(g::read) + " " + g.fault() + " " + Check.written(g);
    }

    private static String now(WaterGrid g) {
        StringBuilder all = new StringBuilder();
        for (int k = 0; k < 92; k++) all.append(g.octet(k)).append(' ');
        for (int what = 0; what < 8; what++) all.append(g.count(what)).append(' ');
        all.append(Check.answer(g::compare)).append(Check.answer(g::beats)).append(' ');
        for (int i = 0; i < 25; i++) {
            int x = i % 5;
            int y = i / 5;
            all.append(Check.answer(() -> g.stone(x, y))).append(Check.answer(() -> g.pipe(x, y, false)));
            all.append(Check.answer(() -> g.pipe(x, y, true))).append(' ');
        }
        for (int k = 0; k <= 24; k++) all.append(g.joins(k)).append(' ');
        return all.toString();
    }

    /** What was told below stones, too: each pipe answers it as it is told to be open. */
    private static String told(WaterGrid g) {
        StringBuilder all = new StringBuilder();
        for (int i = 0; i < 25; i++) {
            int x = i % 5;
            int y = i / 5;
            all.append(Check.answer(() -> g.tell(x, y, false, 1))).append(Check.answer(() -> g.tell(x, y, true, 1))).append(' ');
        }
        return all.toString();
    }

    private static String undone(WaterGrid g, int times) {
        StringBuilder all = new StringBuilder();
        for (int i = 0; i < times; i++) all.append(g.undo()).append(' ');
        return all + Check.written(g);
    }
}
