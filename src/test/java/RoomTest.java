import java.lang.management.ManagementFactory;

/** What calls make is counted: all calls of a run live in one room, and nothing that was made goes out of it. */
public final class RoomTest {
    private static final com.sun.management.ThreadMXBean BEAN =
            (com.sun.management.ThreadMXBean) ManagementFactory.getThreadMXBean();
    private static final String TEXT = "grid 5 5;stone 1 1;stone 3 3;stone 1 3;stone 3 1;";

    private interface Call { void on(WaterGrid grid, int i); }

    private static long made(Call call, int times) {
        WaterGrid grid = Check.grid(TEXT);
        long before = BEAN.getCurrentThreadAllocatedBytes();
        for (int i = 0; i < times; i++) call.on(grid, i);
        return BEAN.getCurrentThreadAllocatedBytes() - before;
    }

    public static void main(String[] args) {
        Check check = new Check();
        // Rows for all helpers are some 250,000 bytes; each act, each keep but a few hundred.
        long most = 400_000L;
        limit(check, "a new object", made((g, i) -> new WaterGrid(), 512) / 512, 16_000L);
        limit(check, "acts and counts", made((g, i) -> { g.tell(0, 0, true, i % 3); g.joins(i % 9); g.states(4); }, 170), most);
        limit(check, "turns", made((g, i) -> { g.turn(2); g.mean(true); g.turn(0); g.undo(); }, 128), most);
        limit(check, "deciders", made((g, i) -> { g.put(2, 2, i % 2 == 0); g.leader(1, 3); g.toShut(); }, 170), most);
        limit(check, "side ways", made((g, i) -> { g.tell(0, 1, true, i % 2); g.decides(0, 0, true, 3); }, 256), most);
        limit(check, "trials", made((g, i) -> { if (i == 0) shrink(g); g.tell(4, 3, true, 1 + i % 2); g.tried(4, 3); }, 240), most);
        limit(check, "keeps", made((g, i) -> { g.keep(); g.compare(); g.beats(); }, 170), most);
        limit(check, "draws", made((g, i) -> { g.drawn(i, 1, 2, 1); g.oneByOne(i, true); g.drain(i, 1, 2); g.undo(); }, 128), most);
        limit(check, "texts", made((g, i) -> { Check.feed(g, "grid 3 3;"); g.read(); g.write(); }, 100), most);
        check.finish("room");
    }

    private static void shrink(WaterGrid grid) {
        for (int x = 0; x < 5; x += 2) {
            for (int y = 0; y < 4; y++) grid.tell(x, y, true, 1);
        }
    }

    private static void limit(Check check, String what, long got, long most) {
        check.due(what + " (" + got + " bytes) stays in its room", got <= most, true);
    }
}
