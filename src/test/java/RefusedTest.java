import java.util.List;
import java.util.Map;
import java.util.NoSuchElementException;
import java.util.Set;
import java.util.TreeSet;
import java.util.function.Function;
import java.util.function.Supplier;

/** Which exception is thrown, where there are several; and that a refused call changes nothing but what the document says. */
public final class RefusedTest {
    private static final Class<?> INDEX = IndexOutOfBoundsException.class;
    private static final Class<?> ARGUMENT = IllegalArgumentException.class;
    private static final Class<?> STATE = IllegalStateException.class;
    private static final Class<?> ELEMENT = NoSuchElementException.class;
    private static final int LEAST = Integer.MIN_VALUE;
    private static final int MOST = Integer.MAX_VALUE;

    private final Check check = new Check();
    private final Doc doc = new Doc();
    private final Set<String> thrown = new TreeSet<>();
    private Supplier<WaterGrid> made;
    private Story story;
    private Map<Story.Part, String> before;

    public static void main(String[] args) {
        RefusedTest all = new RefusedTest();
        all.quotes();
        all.of(WaterGrid::new);
        all.newObject();
        all.of(RefusedTest::rich);
        all.changesAreSeen();
        all.noPlace();
        all.noNumber();
        all.noChance();
        all.notFree();
        all.firstOfSeveral();
        all.noneSuch();
        all.askedAlone();
        all.wrongTexts();
        all.of(RefusedTest::full);
        all.tooMany();
        all.wrongTexts();
        all.check.due("each exception of each call was thrown", all.thrown, all.doc.refusals());
        all.check.finish("refused calls");
    }

    private void quotes() {
        for (String words : new String[] {"Of several exceptions the one told first is thrown; a call that throws changes nothing "
            + "but the TAPE, where it is used up, and fault(), where a text is read.",
            "IndexOutOfBoundsException: there is no such CELL, ROW, PIPE. IllegalArgumentException: a number is none; a text is wrong. "
            + "NoSuchElementException: there is none such, another what. IllegalStateException: it cannot be."}) {
            check.due("the document says " + words, doc.says(words), true);
        }
    }

    // ---- objects of which much can be told

    /** Two by two are kept; now three by two, three pipes free; the latest 16 of 17 acts; a fault; nine bytes on the tape. */
    private static WaterGrid rich() {
        WaterGrid g = Check.grid("grid 2 2;");
        g.keep();
        Check.feed(g, "grid 3 2;open 0 0 right;shut 0 0 down;open 2 0 down;stone 2 1;");
        g.read();
        for (int i = 0; i < 5; i++) {
            g.tell(1, 0, false, 1 + i % 2);
            g.put(0, 1, i % 2 == 0);
        }
        g.write();
        g.put(0, 1, false);
        for (int how : new int[] {0, 0, 1, 1}) g.turn(how);
        g.tell(1, 0, true, 2);
        g.tell(1, 0, false, 0);
        g.tell(1, 0, true, 0);
        Check.feed(g, "grid 2 7;");
        Check.answer(g::read);
        Check.feed(g, "grid 3 1;");
        return g;
    }

    /** 24 of 31 pipes free, one more if a pipe is told free, or if the stone goes; nothing kept; 16 acts; a full tape. */
    private static WaterGrid full() {
        WaterGrid g = Check.grid("grid 5 4;stone 0 0;open 0 0 down;shut 0 2 right;shut 1 2 right;shut 2 2 right;open 3 2 right;"
                + "shut 0 3 right;");
        for (int i = 0; i < 17; i++) g.tell(1, 1, true, i % 2);
        g.write();
        Check.feed(g, "grid 4 4;" + " ".repeat(391));
        return g;
    }

    private void of(Supplier<WaterGrid> next) {
        made = next;
        story = new Story(made);
        before = story.behind(g -> 0);
    }

    private void refused(String call, Class<?> want, Function<WaterGrid, ?> use) {
        WaterGrid g = made.get();
        check.refused(call, want, () -> use.apply(g));
        thrown.add(call.split("[ ,]")[0] + " " + want.getSimpleName());
        check.due(call + ", and nothing changes", story.behind(use), before);
    }

    private void answers(String call, Object want, Function<WaterGrid, ?> use) {
        WaterGrid g = made.get();
        check.due(call, Check.answer(() -> use.apply(g)), want);
        check.due(call + ", and nothing changes", story.behind(use), before);
    }

    /** The story is worth something: whatever changes an object is seen in it. */
    private void changesAreSeen() {
        changes("tell", g -> g.tell(1, 0, false, 1));
        changes("tell, below a stone", g -> g.tell(2, 0, true, 2));
        changes("tell, as it is", g -> g.tell(0, 0, false, 1));
        changes("put", g -> g.put(0, 0, true));
        changes("turn", g -> { g.turn(0); return 0; });
        changes("drain", g -> g.drain(1, 1, 2));
        changes("undo", WaterGrid::undo);
        changes("feed", g -> g.feed(0, 0, 0, 0, 0));
        changes("end", g -> g.end(8));
        changes("read", WaterGrid::read);
        changes("keep", WaterGrid::keep);
        changes("write", WaterGrid::write);
    }

    private void changes(String call, Function<WaterGrid, ?> use) {
        check.due(call + " changes nothing", story.behind(use).equals(before), false);
    }

    // ---- what is refused

    private void newObject() {
        answers("undo, no act", -1, WaterGrid::undo);
        answers("end behind an empty tape", false, g -> g.end(1));
        answers("end below 0", false, g -> g.end(-1));
        refused("compare, nothing is kept", ELEMENT, WaterGrid::compare);
        refused("beats, nothing is kept", ELEMENT, WaterGrid::beats);
        refused("pipe right of one cell", INDEX, g -> g.pipe(0, 0, false));
        refused("tell below one cell", INDEX, g -> g.tell(0, 0, true, 0));
        refused("put beside one cell", INDEX, g -> g.put(1, 0, true));
        refused("between, one row", INDEX, g -> g.between(0, 0, true));
        answers("octet, nothing is written", -1, g -> g.octet(0));
        answers("leader, no pipe is free", -1, g -> g.leader(1, 2));
    }

    private void noPlace() {
        for (int[] at : new int[][] {{-1, 0}, {0, -1}, {3, 0}, {0, 2}, {LEAST, 0}, {0, MOST}}) {
            int x = at[0];
            int y = at[1];
            String cell = " at " + x + " " + y;
            refused("stone" + cell, INDEX, g -> g.stone(x, y));
            refused("put" + cell, INDEX, g -> g.put(x, y, true));
            for (boolean down : new boolean[] {false, true}) {
                refused("pipe" + cell, INDEX, g -> g.pipe(x, y, down));
                refused("tell" + cell, INDEX, g -> g.tell(x, y, down, 1));
                refused("would" + cell, INDEX, g -> g.would(x, y, down, 1, 1, 2, true));
                refused("decides" + cell, INDEX, g -> g.decides(x, y, down, 0));
                refused("rank" + cell, INDEX, g -> g.rank(x, y, down, 1, 2));
            }
        }
        refused("tell right of the last column", INDEX, g -> g.tell(2, 0, false, 1));
        refused("tell below the last row", INDEX, g -> g.tell(0, 1, true, 1));
        for (int row : new int[] {-1, 2, LEAST, MOST}) {
            refused("states of row " + row, INDEX, g -> g.states(row));
            refused("state of row " + row, INDEX, g -> g.state(row, 0, 0));
            refused("ways of row " + row, INDEX, g -> g.ways(row, 0, 0));
            refused("reaches of row " + row, INDEX, g -> g.reaches(row, 0));
            refused("parted of row " + row, INDEX, g -> g.parted(row, 0));
            refused("likeliest of row " + row, INDEX, g -> g.likeliest(row, true));
            refused("between of column " + row, INDEX, g -> g.between(row, 0, true));
        }
        for (int x : new int[] {-1, 3, LEAST, MOST}) {
            refused("state of cell " + x, INDEX, g -> g.state(1, 0, x));
            refused("pair of cell " + x, INDEX, g -> g.pair(x, 0, 0));
            refused("pair with cell " + x, INDEX, g -> g.pair(0, x, 0));
            refused("between, below row " + x, INDEX, g -> g.between(0, x, true));
        }
    }

    private void noNumber() {
        for (int how : new int[] {-1, 3, LEAST, MOST}) {
            refused("tell how " + how, ARGUMENT, g -> g.tell(1, 0, false, how));
            refused("turn " + how, ARGUMENT, g -> { g.turn(how); return 0; });
            refused("would how " + how, ARGUMENT, g -> g.would(1, 0, false, how, 1, 2, true));
        }
        for (int set : new int[] {-1, 8, LEAST, MOST}) refused("wet set " + set, ARGUMENT, g -> g.wet(set, 0));
        for (int[] parts : new int[][] {{0, 0}, {0, 101}, {-1, 5}, {6, 5}, {LEAST, MOST}}) {
            refused("least " + parts[0] + " of " + parts[1], ARGUMENT, g -> g.least(parts[0], parts[1]));
        }
        for (int k : new int[] {-1, 99, LEAST, MOST}) {
            refused("state k " + k, ELEMENT, g -> g.state(1, k, 0));
            refused("ways k " + k, ELEMENT, g -> g.ways(1, k, 0));
        }
        for (int what : new int[] {-1, 4, LEAST, MOST}) refused("drawn what " + what, ELEMENT, g -> g.drawn(1, 1, 2, what));
    }

    private void noChance() {
        for (int[] chance : new int[][] {{0, 0}, {1, 7}, {-1, 2}, {3, 2}, {LEAST, 1}, {0, MOST}}) {
            int a = chance[0];
            int b = chance[1];
            String by = " by " + a + " / " + b;
            refused("drain" + by, ARGUMENT, g -> g.drain(1, a, b));
            refused("value" + by, ARGUMENT, g -> g.value(a, b, true));
            refused("barred" + by, ARGUMENT, g -> g.barred(a, b, true));
            refused("would" + by, ARGUMENT, g -> g.would(1, 0, false, 1, a, b, true));
            refused("wetness" + by, ARGUMENT, g -> g.wetness(a, b, true));
            refused("depth" + by, ARGUMENT, g -> g.depth(a, b, true));
            refused("leader" + by, ARGUMENT, g -> g.leader(a, b));
            refused("rank" + by, ARGUMENT, g -> g.rank(1, 0, false, a, b));
            refused("drawn" + by, ARGUMENT, g -> g.drawn(1, a, b, 0));
        }
        refused("wetness by sixths", ARGUMENT, g -> g.wetness(1, 6, true));
        refused("depth by sixths", ARGUMENT, g -> g.depth(1, 6, true));
    }

    private void notFree() {
        // Open, shut, shut by a stone though told open.
        for (int i = 0; i < 3; i++) {
            int x = i == 2 ? 2 : 0;
            boolean down = i > 0;
            refused("would, not free", STATE, g -> g.would(x, 0, down, 1, 1, 2, true));
            refused("decides, not free", STATE, g -> g.decides(x, 0, down, 0));
            refused("rank, not free", STATE, g -> g.rank(x, 0, down, 1, 2));
        }
        refused("beats, four are free in what is kept", STATE, WaterGrid::beats);
    }

    private void firstOfSeveral() {
        refused("tell no pipe, no how", INDEX, g -> g.tell(2, 0, false, 3));
        refused("state no row, no state", INDEX, g -> g.state(2, 99, 0));
        refused("state no cell, no state", INDEX, g -> g.state(1, 99, 3));
        refused("ways no row, no state", INDEX, g -> g.ways(-1, -1, 0));
        refused("would no pipe, no chance", INDEX, g -> g.would(2, 0, false, 1, 1, 0, true));
        refused("would no pipe, no how", INDEX, g -> g.would(2, 0, false, 3, 1, 2, true));
        refused("would no pipe, no how, no chance", INDEX, g -> g.would(2, 0, false, 3, 1, 0, true));
        refused("would no chance, not free", ARGUMENT, g -> g.would(0, 0, false, 1, 1, 0, true));
        refused("would no how, not free", ARGUMENT, g -> g.would(0, 0, false, 3, 1, 2, true));
        refused("would no how, no chance, not free", ARGUMENT, g -> g.would(0, 0, false, -1, 3, 2, true));
        refused("rank no pipe, no chance", INDEX, g -> g.rank(2, 0, false, 1, 0));
        refused("rank no chance, not free", ARGUMENT, g -> g.rank(0, 0, false, 1, 0));
        refused("drawn no chance, no what", ARGUMENT, g -> g.drawn(1, 1, 0, 9));
    }

    private void noneSuch() {
        for (int n : new int[] {-1, 10, 20, 401, LEAST, MOST}) answers("end at " + n + " of nine", false, g -> g.end(n));
        for (int k : new int[] {-1, 4, LEAST, MOST}) {
            answers("joins " + k, 0, g -> g.joins(k));
            answers("bars " + k, 0, g -> g.bars(k));
            answers("choices " + k, 0, g -> g.choices(k));
            answers("ways " + k, 0, g -> g.ways(1, 0, k));
            answers("wet " + k, 0, g -> g.wet(7, k));
            answers("reaches " + k, 0, g -> g.reaches(1, k));
            answers("parted " + k, 0, g -> g.parted(1, k));
            answers("pair " + k, 0, g -> g.pair(0, 0, k));
            answers("tried " + k, -1, g -> g.tried(k, 0));
            answers("tried at " + k, -1, g -> g.tried(3, k));
            answers("decides " + k, 0, g -> g.decides(1, 0, true, k));
        }
        for (int k : new int[] {-2, 1, LEAST, MOST}) answers("just " + k, -1, g -> g.just(k));
        for (int k : new int[] {-1, 18, LEAST, MOST}) answers("octet " + k, -1, g -> g.octet(k));
        for (int what : new int[] {-1, 8, LEAST, MOST}) answers("count " + what, -1, g -> g.count(what));
    }

    /** Three by two, as written here: what is asked is answered, and changes nothing. */
    private void askedAlone() {
        // o-o.o
        //   .
        // o.o #
        answers("pipe", 1, g -> g.pipe(0, 0, false));
        answers("stone", true, g -> g.stone(2, 1));
        answers("fault", 7, WaterGrid::fault);
        answers("joins", 3, g -> g.joins(2) + g.joins(1));
        answers("bars", 1, g -> g.bars(1));
        answers("choices", 3, g -> g.choices(1));
        answers("states", 5, g -> g.states(1) + g.states(0));
        answers("state", 9, g -> g.state(1, 0, 2));
        answers("ways", 1, g -> g.ways(1, 0, 2));
        answers("wet", 1, g -> g.wet(3, 2));
        answers("reaches", 1, g -> g.reaches(1, 1));
        answers("parted", 2, g -> g.parted(1, 0));
        answers("pair", 2, g -> g.pair(0, 1, 2));
        answers("tried", 2, g -> g.tried(1, 0));
        answers("just", 1, g -> g.just(-1));
        answers("likeliest", 2, g -> g.likeliest(1, true));
        answers("between", 1, g -> g.between(0, 0, true));
        answers("alike", true, WaterGrid::alike);
        answers("value", 2, g -> g.value(1, 2, true));
        answers("barred", 5, g -> g.barred(1, 6, false));
        answers("would", 1, g -> g.would(1, 0, true, 1, 1, 6, true));
        answers("wetness", 4, g -> g.wetness(1, 2, true));
        answers("depth", 3, g -> g.depth(1, 2, false));
        answers("least", 1, g -> g.least(33, 100));
        answers("mean", 2, g -> g.mean(false));
        answers("half", 2, WaterGrid::half);
        answers("decides", 2, g -> g.decides(1, 0, true, 1));
        answers("leader", 3, g -> g.leader(1, 2));
        answers("rank", 1, g -> g.rank(0, 1, false, 1, 2));
        answers("toOpen", 1, WaterGrid::toOpen);
        answers("toShut", 1, WaterGrid::toShut);
        answers("drawn", 5, g -> g.drawn(7, 6, 6, 1));
        answers("oneByOne", 3, g -> g.oneByOne(7, true));
        answers("compare", 1, WaterGrid::compare);
        answers("octet", 45, g -> g.octet(1));
        answers("count", 16, g -> g.count(6));
    }

    private void tooMany() {
        refused("tell a 25th free", STATE, g -> g.tell(0, 2, false, 0));
        refused("tell a 25th free, that was open", STATE, g -> g.tell(3, 2, false, 0));
        refused("tell no how, of a 25th", ARGUMENT, g -> g.tell(0, 2, false, 3));
        refused("put the stone away", STATE, g -> g.put(0, 0, false));
        refused("put no stone where there is no cell", INDEX, g -> g.put(5, 0, false));
        refused("tried with 24", STATE, g -> g.tried(3, 0));
        refused("tried with 24, of none", STATE, g -> g.tried(-1, -1));
        refused("just with 24", STATE, g -> g.just(-1));
        refused("compare, nothing is kept", ELEMENT, WaterGrid::compare);
        refused("beats, nothing is kept", ELEMENT, WaterGrid::beats);
        answers("feed behind 400", -1, g -> g.feed(1, 2, 3, 4, 5));
        answers("end behind 400", false, g -> g.end(401));
        answers("end below 0", false, g -> g.end(-1));
    }

    /** A wrong text: the tape is used up, and the fault is told; all else stays. */
    private void wrongTexts() {
        String[] texts = {"", "grid", "grid 2 2", "grid 6 2;", "grid 2 2;stone 2 2;", "grid 5 5;", "grid 1 1;stone 0 0;stone 0 0;", "x"};
        int[] faults = {0, 4, 8, 5, 15, 9, 27, 0};
        for (int i = 0; i < texts.length; i++) {
            String text = texts[i];
            Map<Story.Part, String> behind = story.behind(g -> {
                g.end(0);
                Check.feed(g, text);
                return g.read();
            });
            check.due("fault of " + text, behind.get(Story.Part.FAULT), faults[i]);
            check.due("the tape behind " + text, behind.get(Story.Part.TAPE).startsWith("0 IllegalArgumentException 0 "), true);
            for (Story.Part part : List.of(Story.Part.NOW, Story.Part.TOLD, Story.Part.UNDONE)) {
                check.due(part + " behind " + text, behind.get(part), before.get(part));
            }
        }
        check.due("read throws", Check.answer(() -> new WaterGrid().read()), ARGUMENT.getSimpleName());
        thrown.add("read " + ARGUMENT.getSimpleName());
    }
}
