import java.util.ArrayList;
import java.util.List;
import java.util.concurrent.Callable;

/** What the tests of the terms share: a quote counts only if something is asked behind it. */
abstract class Terms extends Edges {
    /** Two by two: the pipes 0 (right) and 1, 3 (down) above, 10 (right) below. */
    static final String SQUARE = "grid 2 2;";

    private final Check asked;
    private String quoted = "";
    private int answers;

    Terms(Check check, Doc doc) {
        super(check, doc);
        asked = check;
    }

    abstract void sentences();

    @Override
    final void run() {
        sentences();
        endQuote();
    }

    /** What follows tests these words. */
    final void says(String words) {
        endQuote();
        quoted = words;
        answers = 0;
        term(words);
    }

    private void endQuote() {
        if (!quoted.isEmpty()) asked.due("answers behind: " + quoted, answers > 0, true);
    }

    @Override
    void due(String what, Object got, Object want) {
        answers++;
        super.due(what, got, want);
    }

    @Override
    void refused(String what, Class<?> want, Callable<?> call) {
        answers++;
        super.refused(what, want, call);
    }

    void fault(String text, int want) { due("the fault of '" + text + "'", Check.faultOf(text), want); }

    static String joins(WaterGrid g) {
        StringBuilder all = new StringBuilder();
        for (int k = 0; k <= g.count(2); k++) all.append(g.joins(k)).append(' ');
        return all.toString().trim();
    }

    static String bars(WaterGrid g) {
        StringBuilder all = new StringBuilder();
        for (int k = 0; k <= g.count(2); k++) all.append(g.bars(k)).append(' ');
        return all.toString().trim();
    }

    static String value(WaterGrid g, int a, int b) { return fraction(g.value(a, b, false), g.value(a, b, true)); }

    /** All states of a row, in their order. */
    static String states(WaterGrid g, int row) {
        StringBuilder all = new StringBuilder();
        for (int k = 0; k < g.states(row); k++) {
            for (int x = 0; x < g.count(0); x++) all.append(g.state(row, k, x));
            all.append(' ');
        }
        return all.toString().trim();
    }

    /** The numbers of the free pipes, as the grid itself tells of each pipe that there is. */
    static List<Integer> freeNumbers(WaterGrid g) {
        List<Integer> numbers = new ArrayList<>();
        for (Pipe p : pipes(g.count(0), g.count(1))) {
            if (g.pipe(p.x(), p.y(), p.down()) == 0) numbers.add(10 * p.y() + 2 * p.x() + (p.down() ? 1 : 0));
        }
        return numbers;
    }

    /** The seed's next one by numbers that do not go round: the lowest 32 bits of what comes. */
    static int nextSeed(int seed) {
        return java.math.BigInteger.valueOf(1103515245L).multiply(java.math.BigInteger.valueOf(seed))
                .add(java.math.BigInteger.valueOf(12345L)).intValue();
    }

    /** Bits 16 to 30 as a number, bit by bit. */
    static int bitsOf(int seed) {
        int number = 0;
        for (int bit = 16; bit <= 30; bit++) if ((seed & 1 << bit) != 0) number += 1 << bit - 16;
        return number;
    }
}
