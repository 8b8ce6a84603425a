import java.util.ArrayList;
import java.util.List;
import java.util.NoSuchElementException;
import java.util.concurrent.Callable;

/** What the tests of boundary cases share: the sentence that is tested, and grids of every size. */
abstract class Edges {
    static final Class<?> INDEX = IndexOutOfBoundsException.class;
    static final Class<?> ARGUMENT = IllegalArgumentException.class;
    static final Class<?> STATE = IllegalStateException.class;
    static final Class<?> ELEMENT = NoSuchElementException.class;
    static final int LEAST = Integer.MIN_VALUE;
    static final int MOST = Integer.MAX_VALUE;
    /** Numbers that are far away, too: what is made of them must not go round to one that is allowed. */
    static final int[] FAR = {LEAST, LEAST + 1, -1 << 30, 1 << 30, MOST - 1, MOST};
    /** 24 pipes are free. */
    static final String FULL = "grid 4 4;";

    /** 24 pipes are free, and one of them alone, with the greatest number, lets the water through. */
    static final String ONE_OF_24 = "grid 5 5;open 4 0 down;open 4 1 down;open 4 2 down;"
            + "shut 0 3 down;shut 1 3 down;shut 2 3 down;shut 3 3 down;"
            + "shut 0 0 right;shut 0 0 down;shut 1 0 right;shut 1 0 down;shut 2 0 right;shut 2 0 down;shut 3 0 right;"
            + "shut 3 0 down;shut 0 1 right;";

    private final Check check;
    private final Doc doc;
    private String sentence = "";

    Edges(Check check, Doc doc) {
        this.check = check;
        this.doc = doc;
    }

    abstract void run();

    /** What follows tests these words of the document's terms. */
    void term(String words) {
        sentence = words;
        check.due("the document says " + words, doc.says(words), true);
    }

    /** What follows tests these words of a promise. */
    void promise(int n, String words) {
        sentence = "promise " + n + ", " + words;
        check.due("the document says in " + sentence, doc.promises(n, words), true);
    }

    void due(String what, Object got, Object want) { check.due("[" + sentence + "] " + what, got, want); }

    void refused(String what, Class<?> want, Callable<?> call) { check.refused("[" + sentence + "] " + what, want, call); }

    static WaterGrid grid(String text) { return Check.grid(text); }

    static String fraction(long upper, long lower) { return upper + "/" + lower; }

    /** A pipe as the text tells it. */
    record Pipe(int x, int y, boolean down) {
        String told(String how) { return how + " " + x + " " + y + (down ? " down;" : " right;"); }
    }

    static List<Pipe> pipes(int columns, int rows) {
        List<Pipe> all = new ArrayList<>();
        for (int y = 0; y < rows; y++) {
            for (int x = 0; x < columns; x++) {
                if (x < columns - 1) all.add(new Pipe(x, y, false));
                if (y < rows - 1) all.add(new Pipe(x, y, true));
            }
        }
        return all;
    }

    /** A grid of any size, so many of its pipes free: the first ones are told so. */
    static String withFree(int columns, int rows, int free, String how) {
        StringBuilder text = new StringBuilder("grid " + columns + " " + rows + ";");
        List<Pipe> all = pipes(columns, rows);
        for (int i = 0; i < all.size() - free; i++) text.append(all.get(i).told(how));
        return text.toString();
    }

    /** A grid of any size with as many free pipes as may be, the others shut. */
    static String sized(int columns, int rows) { return withFree(columns, rows, 24, "shut"); }

    interface Chanced { Object on(int a, int b); }

    /** Every chance near the bounds, and far from them: the call takes those alone that there are. */
    void chances(String name, int mostB, Chanced call) {
        for (int b = -2; b <= 8; b++) {
            for (int a = -2; a <= 9; a++) chanceIs(name, a, b, b >= 1 && b <= mostB && a >= 0 && a <= b, call);
        }
        for (int far : FAR) {
            chanceIs(name, far, 1, false, call);
            chanceIs(name, 0, far, false, call);
            chanceIs(name, far, far, false, call);
        }
    }

    private void chanceIs(String name, int a, int b, boolean one, Chanced call) {
        String got;
        try {
            call.on(a, b);
            got = "answers";
        } catch (RuntimeException e) {
            got = e.getClass().getSimpleName();
        }
        due(name + " by " + a + " / " + b, got, one ? "answers" : "IllegalArgumentException");
    }

    interface Counted { long on(int k); }

    /** 0 for each k that there is not: below 0, above the last, and far away. */
    void noneBeyond(String name, int last, Counted call) {
        for (int k : new int[] {-1, -2, last + 1, last + 2, 23, 24, 25, 26, 31, 32, 63, 64}) {
            if (k < 0 || k > last) due(name + " of " + k, call.on(k), 0);
        }
        for (int k : FAR) due(name + " of " + k, call.on(k), 0);
    }
}
