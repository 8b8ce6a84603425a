import java.lang.management.ManagementFactory;
import java.lang.reflect.Method;
import java.lang.reflect.Modifier;
import java.util.NoSuchElementException;
import java.util.TreeSet;

/** What calls make is counted: all calls of a run live in one room, and nothing that was made goes out of it. */
public final class RoomTest {
    private static final com.sun.management.ThreadMXBean BEAN =
            (com.sun.management.ThreadMXBean) ManagementFactory.getThreadMXBean();
    private static final long ROOM_OBJECTS = 600_000L;
    private static final long ROOM_ELEMENTS = 7_300_000L;
    private static final long CALLS = 512L;
    private static final String TEXT = "grid 5 5;stone 1 1;stone 3 3;stone 1 3;stone 3 1;";
    /** 24 pipes are free, and one more would be if the pipe down from (0, 0) were told so. */
    private static final String FULL = "grid 5 4;shut 0 0 down;shut 1 0 down;shut 0 1 right;shut 1 1 right;"
            + "shut 2 1 right;shut 3 1 right;shut 0 2 right;";
    /** An empty text: the object is as it is made. The others: most states, most free pipes, most that is tried. */
    private static final String[] TEXTS = {"", TEXT, FULL, "grid 4 4;", "grid 3 3;", "grid 5 2;", "grid 1 5;", "grid 5 1;"};
    /** What stands on the tape, to be read: nothing, right texts, one with too many free pipes, a wrong one. */
    private static final String[] TAPES = {"", TEXT, "grid 5 5;", "grid 3 3;", "grid 6"};

    private interface Call { void on(WaterGrid grid, int i); }

    private record Kind(String name, Call call) { }

    /** Each call of the face; i tells the time, so that arguments are right at times and wrong at times. */
    private static final Kind[] KINDS = {
        new Kind("feed", (g, i) -> g.feed(1, 2, 3, 4, 5)),
        new Kind("end", (g, i) -> g.end(i)),
        new Kind("read", (g, i) -> g.read()),
        new Kind("fault", (g, i) -> g.fault()),
        new Kind("pipe", (g, i) -> g.pipe(i, 0, true)),
        new Kind("stone", (g, i) -> g.stone(i, i)),
        new Kind("tell", (g, i) -> g.tell(0, 0, i < 3, i)),
        new Kind("put", (g, i) -> g.put(i % 2, i % 2, i != 1)),
        new Kind("turn", (g, i) -> g.turn(i)),
        new Kind("drain", (g, i) -> g.drain(i, i, 3)),
        new Kind("undo", (g, i) -> g.undo()),
        new Kind("joins", (g, i) -> g.joins(i)),
        new Kind("bars", (g, i) -> g.bars(i)),
        new Kind("choices", (g, i) -> g.choices(i)),
        new Kind("states", (g, i) -> g.states(i)),
        new Kind("state", (g, i) -> g.state(i, i, i)),
        new Kind("ways", (g, i) -> g.ways(i, i, i)),
        new Kind("wet", (g, i) -> g.wet(i * 7, i)),
        new Kind("reaches", (g, i) -> g.reaches(i, i)),
        new Kind("parted", (g, i) -> g.parted(i, i)),
        new Kind("pair", (g, i) -> g.pair(0, i, i)),
        new Kind("tried", (g, i) -> g.tried(4, i)),
        new Kind("just", (g, i) -> g.just(i - 1)),
        new Kind("likeliest", (g, i) -> g.likeliest(i, true)),
        new Kind("between", (g, i) -> g.between(0, i, true)),
        new Kind("alike", (g, i) -> g.alike()),
        new Kind("value", (g, i) -> g.value(i, 3, true)),
        new Kind("barred", (g, i) -> g.barred(i, 3, true)),
        new Kind("would", (g, i) -> g.would(0, 1, true, 2 - i, 1, 6, true)),
        new Kind("wetness", (g, i) -> g.wetness(i, 3, true)),
        new Kind("depth", (g, i) -> g.depth(i, 3, true)),
        new Kind("least", (g, i) -> g.least(i, 3)),
        new Kind("mean", (g, i) -> g.mean(true)),
        new Kind("half", (g, i) -> g.half()),
        new Kind("decides", (g, i) -> g.decides(0, i, true, 3)),
        new Kind("leader", (g, i) -> g.leader(i, 3)),
        new Kind("rank", (g, i) -> g.rank(0, 1, true, i, 3)),
        new Kind("toOpen", (g, i) -> g.toOpen()),
        new Kind("toShut", (g, i) -> g.toShut()),
        new Kind("drawn", (g, i) -> g.drawn(i, 1, 2, i)),
        new Kind("oneByOne", (g, i) -> g.oneByOne(i, true)),
        new Kind("keep", (g, i) -> g.keep()),
        new Kind("compare", (g, i) -> g.compare()),
        new Kind("beats", (g, i) -> g.beats()),
        new Kind("write", (g, i) -> g.write()),
        new Kind("octet", (g, i) -> g.octet(i)),
        new Kind("count", (g, i) -> g.count(i)),
    };

    private final Check check = new Check();

    public static void main(String[] args) {
        RoomTest test = new RoomTest();
        test.kindsAreTheFace();
        test.dearestCall();
        test.runs();
        test.check.finish("room");
    }

    private void kindsAreTheFace() {
        TreeSet<String> face = new TreeSet<>();
        for (Method m : WaterGrid.class.getDeclaredMethods()) if (Modifier.isPublic(m.getModifiers())) face.add(m.getName());
        TreeSet<String> kinds = new TreeSet<>();
        for (Kind kind : KINDS) kinds.add(kind.name);
        check.due("the kinds of calls that are counted", kinds, face);
    }

    /** The most that any one call makes, times all calls of an object, and what the constructor makes. */
    private void dearestCall() {
        long object = bytesOf((g, i) -> new WaterGrid(), null, 0);
        object = Math.max(object, bytesOf((g, i) -> new WaterGrid(), null, 0));
        long most = 0L;
        for (Kind kind : KINDS) {
            long dearest = dearestOf(kind);
            room("a new object and " + CALLS + " times " + kind.name, object + CALLS * dearest, 1);
            // Well inside: no call makes a row, its first one neither.
            room(CALLS + " times " + kind.name + " alone", CALLS * dearest, 10);
            most = Math.max(most, dearest);
        }
        room("a new object and " + CALLS + " of the dearest call", object + CALLS * most, 1);
    }

    private static long dearestOf(Kind kind) {
        long most = 0L;
        for (String text : TEXTS) {
            // The first round is not counted: the machine itself makes some things the first time.
            for (int round = 0; round < 2; round++) {
                for (int first = 0; first < TAPES.length; first++) {
                    WaterGrid grid = text.isEmpty() ? new WaterGrid() : Check.grid(text);
                    Check.feed(grid, TAPES[first]);
                    long made = firstAndLater(kind, grid, first);
                    if (round > 0) most = Math.max(most, made);
                }
            }
        }
        return most;
    }

    /** The most of the first call of a kind on an object, of those behind it, and of one behind an act. */
    private static long firstAndLater(Kind kind, WaterGrid grid, int first) {
        long most = bytesOf(kind.call, grid, first);
        for (int i = 0; i < 5; i++) most = Math.max(most, bytesOf(kind.call, grid, i));
        grid.turn(2);
        return Math.max(most, bytesOf(kind.call, grid, first));
    }

    private static long bytesOf(Call call, WaterGrid grid, int i) {
        long before = BEAN.getCurrentThreadAllocatedBytes();
        try {
            call.on(grid, i);
        } catch (IllegalArgumentException | IndexOutOfBoundsException | IllegalStateException | NoSuchElementException e) {
            // What a refused call makes is counted like any other.
        }
        return BEAN.getCurrentThreadAllocatedBytes() - before;
    }

    /** No object has fewer than 16 bytes, no field or element of the class's rows fewer than 4. */
    private void room(String what, long bytes, int part) {
        boolean fits = bytes / 16 <= ROOM_OBJECTS / part && bytes / 4 <= ROOM_ELEMENTS / part;
        check.due(what + " (" + bytes + " bytes) stays in 1 / " + part + " of the room", fits, true);
    }

    private void runs() {
        limit("acts and counts", (g, i) -> { g.tell(0, 0, true, i % 3); g.joins(i % 9); g.states(4); }, 170);
        limit("turns", (g, i) -> { g.turn(2); g.mean(true); g.turn(0); g.undo(); }, 128);
        limit("deciders", (g, i) -> { g.put(2, 2, i % 2 == 0); g.leader(1, 3); g.toShut(); }, 170);
        limit("side ways", (g, i) -> { g.tell(0, 1, true, i % 2); g.decides(0, 0, true, 3); }, 256);
        limit("trials", (g, i) -> { if (i == 0) shrink(g); g.tell(4, 3, true, 1 + i % 2); g.tried(4, 3); }, 240);
        limit("keeps", (g, i) -> { g.keep(); g.compare(); g.beats(); }, 170);
        limit("draws", (g, i) -> { g.drawn(i, 1, 2, 1); g.oneByOne(i, true); g.drain(i, 1, 2); g.undo(); }, 128);
        limit("texts", (g, i) -> { Check.feed(g, "grid 3 3;"); g.read(); g.write(); }, 100);
    }

    private static void shrink(WaterGrid grid) {
        for (int x = 0; x < 5; x += 2) {
            for (int y = 0; y < 4; y++) grid.tell(x, y, true, 1);
        }
    }

    /** Acts make but a small object each; a run of them all stays below what one row of the largest kind has. */
    private void limit(String what, Call call, int times) {
        WaterGrid grid = Check.grid(TEXT);
        long made = 0L;
        for (int i = 0; i < times; i++) made += bytesOf(call, grid, i);
        check.due(what + " (" + made + " bytes) stay in their room", made <= 100_000L, true);
    }
}
