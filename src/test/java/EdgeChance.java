import java.math.BigInteger;
import java.util.ArrayList;
import java.util.Collections;
import java.util.List;

/** Boundary cases of what is told by chances, of fewest pipes and of draws: promises 28 to 42. */
final class EdgeChance extends Edges {
    private static final String SQUARE = "grid 2 2;";
    /** Water never comes, though a pipe is free. */
    private static final String NEVER = "grid 1 3;shut 0 0 down;";
    /** Water is there at once, though a pipe is free. */
    private static final String ONCE = "grid 2 2;open 0 0 down;";
    /** Stones leave one free pipe that decides, down from (4, 3), and none besides. */
    private static final String WIDE_STONES = "grid 5 5;open 4 0 down;open 4 1 down;open 4 2 down;"
            + "stone 3 0;stone 3 1;stone 3 2;stone 3 3;stone 3 4;stone 1 0;stone 1 1;stone 1 2;stone 1 3;stone 1 4;"
            + "stone 0 1;stone 0 3;stone 2 1;stone 2 3;";
    private static final int[] SEEDS = {0, 1, -1, 2, 7, 12345, -12345, 1 << 15, 1 << 16, 1 << 30, LEAST, LEAST + 1, MOST, MOST - 1};

    EdgeChance(Check check, Doc doc) { super(check, doc); }

    @Override
    void run() {
        chances();
        value();
        barred();
        would();
        wetness();
        depth();
        least();
        mean();
        half();
        decides();
        leader();
        leaders();
        rank();
        toOpen();
        toShut();
        drawn();
        seeds();
        oneByOne();
        orders();
    }

    private void chances() {
        term("CHANCE a / b (b 1 to 6, a 0 to b)");
        chances("value", 6, (a, b) -> grid(SQUARE).value(a, b, false));
        chances("value, low", 6, (a, b) -> grid(NEVER).value(a, b, true));
        chances("barred", 6, (a, b) -> grid(SQUARE).barred(a, b, false));
        chances("barred of one row", 6, (a, b) -> new WaterGrid().barred(a, b, true));
        chances("would", 6, (a, b) -> grid(SQUARE).would(0, 0, true, 1, a, b, true));
        chances("would, free", 6, (a, b) -> grid(SQUARE).would(0, 0, true, 0, a, b, true));
        chances("leader", 6, (a, b) -> grid(SQUARE).leader(a, b));
        chances("leader of none", 6, (a, b) -> new WaterGrid().leader(a, b));
        chances("rank", 6, (a, b) -> grid(SQUARE).rank(0, 0, true, a, b));
        chances("drawn", 6, (a, b) -> grid(SQUARE).drawn(1, a, b, 0));
        chances("drawn of none", 6, (a, b) -> new WaterGrid().drawn(1, a, b, 3));
        chances("drain of none", 6, (a, b) -> new WaterGrid().drain(1, a, b));
        term("WETNESS by a CHANCE (b 1 to 5)");
        chances("wetness", 5, (a, b) -> grid(SQUARE).wetness(a, b, false));
        chances("wetness, low", 5, (a, b) -> new WaterGrid().wetness(a, b, true));
        promise(32, "IllegalArgumentException: the CHANCE is none, or b is 6.");
        chances("depth", 5, (a, b) -> grid(SQUARE).depth(a, b, false));
        chances("depth, low", 5, (a, b) -> new WaterGrid().depth(a, b, true));
    }

    interface Fraction { long part(boolean low); }

    private void fraction(String what, Fraction call, String want) { due(what, fraction(call.part(false), call.part(true)), want); }

    private void value() {
        promise(28, "VALUE: the upper (low false), the lower number. IllegalArgumentException: the CHANCE is none.");
        WaterGrid g = grid(SQUARE);
        for (int b = 1; b <= 6; b++) {
            int chance = b;
            fraction("never open by 0 / " + b, low -> g.value(0, chance, low), "0/1");
            fraction("always open by all of " + b, low -> g.value(chance, chance, low), "1/1");
            fraction("never by 0 / " + b, low -> grid(NEVER).value(0, chance, low), "0/1");
            fraction("never by all of " + b, low -> grid(NEVER).value(chance, chance, low), "0/1");
            fraction("at once by 0 / " + b, low -> grid(ONCE).value(0, chance, low), "1/1");
        }
        fraction("1 / 6", low -> g.value(1, 6, low), "11/36");
        fraction("5 / 6", low -> g.value(5, 6, low), "35/36");
        fraction("in lowest terms", low -> g.value(3, 6, low), "3/4");
        fraction("in lowest terms", low -> g.value(2, 4, low), "3/4");
        fraction("no pipe is free", low -> new WaterGrid().value(1, 6, low), "1/1");
        fraction("no pipe is free, none joins", low -> grid("grid 1 1;stone 0 0;").value(1, 6, low), "0/1");
        fraction("one of 24", low -> grid(ONE_OF_24).value(5, 6, low), "5/6");
        fraction("a column", low -> grid("grid 1 5;").value(5, 6, low), "625/1296");
        WaterGrid full = grid(FULL);
        fraction("24 free, never open", low -> full.value(0, 6, low), "0/1");
        fraction("24 free, always open", low -> full.value(6, 6, low), "1/1");
        due("24 free, the lower number divides 6 to the 24th", power(6, 24).mod(BigInteger.valueOf(full.value(1, 6, true))), 0);
        due("24 free, 5 / 6 is near 1", full.value(5, 6, false) > full.value(5, 6, true) / 100 * 99, true);
    }

    private static BigInteger power(int base, int exponent) { return BigInteger.valueOf(base).pow(exponent); }

    private void barred() {
        promise(29, "The chance that some place is barred so that BARS counts it: VALUE of that likewise.");
        WaterGrid g = grid(SQUARE);
        fraction("never open", low -> g.barred(0, 6, low), "1/1");
        fraction("always open", low -> g.barred(6, 6, low), "0/1");
        fraction("1 / 6", low -> g.barred(1, 6, low), "25/36");
        fraction("5 / 6", low -> g.barred(5, 6, low), "1/36");
        fraction("in lowest terms", low -> g.barred(2, 6, low), "4/9");
        fraction("never joins", low -> grid(NEVER).barred(1, 2, low), "1/1");
        fraction("joins at once", low -> grid(ONCE).barred(1, 2, low), "0/1");
        fraction("one row", low -> grid("grid 3 1;").barred(1, 2, low), "0/1");
        fraction("one row of stones", low -> grid("grid 1 1;stone 0 0;").barred(1, 2, low), "0/1");
        WaterGrid full = grid(FULL);
        fraction("24 free, never open", low -> full.barred(0, 6, low), "1/1");
        fraction("one of 24", low -> grid(ONE_OF_24).barred(5, 6, low), "1/6");
        due("24 free, together all", full.barred(1, 6, false) + full.value(1, 6, false), full.value(1, 6, true));
    }

    private void would() {
        promise(30, "VALUE, if a PIPE were told so (0 FREE, 1 OPEN, 2 SHUT). IllegalArgumentException: the CHANCE is none, it is none of these; IllegalStateException: it is not FREE now.");
        WaterGrid g = grid(SQUARE);
        fraction("free", low -> g.would(0, 0, true, 0, 1, 6, low), "11/36");
        fraction("open", low -> g.would(0, 0, true, 1, 1, 6, low), "1/1");
        fraction("shut", low -> g.would(0, 0, true, 2, 1, 6, low), "1/6");
        fraction("the only free one, open", low -> grid("grid 1 2;").would(0, 0, true, 1, 0, 6, low), "1/1");
        fraction("the only free one, shut", low -> grid("grid 1 2;").would(0, 0, true, 2, 6, 6, low), "0/1");
        fraction("24 free, shut", low -> grid(FULL).would(3, 2, true, 2, 6, 6, low), "1/1");
        fraction("24 free, open", low -> grid(FULL).would(3, 2, true, 1, 0, 6, low), "0/1");
        fraction("one of 24, open", low -> grid(ONE_OF_24).would(4, 3, true, 1, 1, 6, low), "1/1");
        fraction("one of 24, shut", low -> grid(ONE_OF_24).would(4, 3, true, 2, 5, 6, low), "0/1");
        fraction("another of 24", low -> grid(ONE_OF_24).would(0, 4, false, 2, 5, 6, low), "5/6");
        for (int how : new int[] {-1, 3, 4, LEAST, MOST}) refused("how " + how, ARGUMENT, () -> g.would(0, 0, true, how, 1, 2, true));
        due("nothing was told", g.count(2) + " " + g.count(6), "4 0");
        for (int how = 0; how <= 2; how++) {
            int would = how;
            refused("open", STATE, () -> grid("grid 1 2;open 0 0 down;").would(0, 0, true, would, 1, 2, true));
            refused("shut", STATE, () -> grid("grid 1 2;shut 0 0 down;").would(0, 0, true, would, 1, 2, true));
            refused("by a stone", STATE, () -> grid("grid 1 2;stone 0 1;").would(0, 0, true, would, 1, 2, true));
        }
        noPipe("would", (x, y, down) -> g.would(x, y, down, 1, 1, 2, true));
    }

    interface Piped { Object on(int x, int y, boolean down); }

    /** Pipes that a grid of two by two does not have. */
    private void noPipe(String name, Piped call) {
        int[][] cells = {{1, 0}, {1, 1}, {-1, 0}, {0, -1}, {0, 2}, {2, 0}, {LEAST, 0}, {0, MOST}};
        for (int[] cell : cells) refused(name + " right from " + cell[0] + " " + cell[1], INDEX, () -> call.on(cell[0], cell[1], false));
        int[][] above = {{0, 1}, {1, 1}, {-1, 0}, {0, -1}, {2, 0}, {0, 2}, {MOST, 0}, {0, LEAST}};
        for (int[] cell : above) refused(name + " down from " + cell[0] + " " + cell[1], INDEX, () -> call.on(cell[0], cell[1], true));
        due(name + ", the last right", Check.answer(() -> call.on(0, 1, false) != null), true);
        due(name + ", the last down", Check.answer(() -> call.on(1, 0, true) != null), true);
    }

    private void wetness() {
        promise(31, "WETNESS: the upper (low false), the lower number. IllegalArgumentException: the CHANCE is none.");
        WaterGrid g = grid(SQUARE);
        fraction("never open", low -> g.wetness(0, 5, low), "0/1");
        fraction("always open", low -> g.wetness(5, 5, low), "2/1");
        fraction("half", low -> g.wetness(1, 2, low), "5/4");
        fraction("one row", low -> grid("grid 5 1;").wetness(0, 5, low), "5/1");
        fraction("stones are not wet", low -> grid("grid 3 1;stone 1 0;").wetness(2, 5, low), "2/1");
        fraction("none is wet", low -> grid("grid 1 1;stone 0 0;").wetness(2, 5, low), "0/1");
        fraction("24 free, all open", low -> grid(FULL).wetness(5, 5, low), "4/1");
        fraction("4 / 5", low -> grid("grid 1 5;").wetness(4, 5, low), "256/625");
    }

    private void depth() {
        promise(32, "On how many ROWS on the average some CELL is WET by the PIPES down to it and in it: the upper (low false), the lower number, in lowest terms.");
        fraction("none", low -> grid("grid 2 2;stone 0 0;stone 1 0;").depth(5, 5, low), "0/1");
        fraction("the top row alone", low -> grid("grid 1 5;").depth(0, 5, low), "1/1");
        fraction("all", low -> grid("grid 1 5;").depth(5, 5, low), "5/1");
        fraction("24 free, all", low -> grid(FULL).depth(5, 5, low), "4/1");
        fraction("in lowest terms", low -> grid("grid 1 3;").depth(2, 4, low), "7/4");
        fraction("4 / 5", low -> grid("grid 1 3;").depth(4, 5, low), "61/25");
        fraction("to the last row but one", low -> grid("grid 1 3;shut 0 1 down;").depth(1, 1, low), "2/1");
    }

    private void least() {
        promise(33, "The least k so that JOINS k is at least n of d parts (d 1 to 100, n 0 to d) of all CHOICES with k open PIPES; NONE: none. IllegalArgumentException: n, d is none.");
        WaterGrid g = grid(SQUARE);
        for (int d : new int[] {-1, 0, 1, 2, 99, 100, 101, 102, LEAST, MOST}) {
            for (int n : new int[] {-1, 0, 1, d - 1, d, d + 1, LEAST, MOST}) {
                boolean parts = d >= 1 && d <= 100 && n >= 0 && n <= d;
                due("least " + n + " of " + d, Check.answer(() -> g.least(n, d) >= 0), parts ? true : "IllegalArgumentException");
            }
        }
        // Of 1, 4, 6, 4, 1 choices 0, 2, 5, 4, 1 join.
        due("nothing is asked", g.least(0, 1) + " " + g.least(0, 100), "0 0");
        due("just half", g.least(50, 100) + " " + g.least(1, 2), "1 1");
        due("more than half", g.least(51, 100), 2);
        due("just five of six", g.least(5, 6) + " " + g.least(83, 100), "2 2");
        due("more than five of six", g.least(84, 100), 3);
        due("all", g.least(1, 1) + " " + g.least(100, 100), "3 3");
        due("none", grid(NEVER).least(1, 100), -1);
        due("none, and nothing is asked", grid(NEVER).least(0, 100), 0);
        due("at once", grid(ONCE).least(1, 1), 0);
        due("no pipe is free", new WaterGrid().least(1, 1), 0);
        due("no pipe is free, none joins", grid("grid 1 1;stone 0 0;").least(1, 1), -1);
        due("all of a column", grid("grid 1 5;").least(1, 100), 4);
        // With one row of four pipes shut, 20 open ones do not suffice; 21 always do.
        due("24 free, all", grid(FULL).least(100, 100), 21);
        due("one of 24, k of 24 parts", grid(ONE_OF_24).least(7, 24) + " " + grid(ONE_OF_24).least(29, 100) + " "
                + grid(ONE_OF_24).least(30, 100) + " " + grid(ONE_OF_24).least(99, 100), "7 7 8 24");
    }

    private void mean() {
        term("how many on the average until it JOINS (0, if it JOINS at once), in lowest terms; none, if it never does.");
        promise(34, "MEAN: the upper (low false), the lower number; NONE: none.");
        fraction("never", low -> grid(NEVER).mean(low), "-1/-1");
        fraction("never, no pipe is free", low -> grid("grid 1 1;stone 0 0;").mean(low), "-1/-1");
        fraction("at once", low -> grid(ONCE).mean(low), "0/1");
        fraction("at once, no pipe is free", low -> new WaterGrid().mean(low), "0/1");
        fraction("by the last", low -> grid("grid 1 5;").mean(low), "4/1");
        fraction("by any", low -> grid("grid 1 2;").mean(low), "1/1");
        fraction("by one of two", low -> grid("grid 2 2;shut 0 0 right;shut 0 0 down;").mean(low), "3/2");
        fraction("in lowest terms", low -> grid(SQUARE).mean(low), "5/3");
        fraction("by one of 24", low -> grid(ONE_OF_24).mean(low), "25/2");
    }

    private void half() {
        term("HALF: the least k so that JOINS k is at least half of all CHOICES with k open PIPES; none.");
        promise(35, "HALF; NONE: none.");
        due("just half", grid(SQUARE).half(), 1);
        // One pipe of three: 1 of 3 is less than half, 2 of 3 is more.
        due("less than half", grid("grid 3 2;shut 0 0 down;shut 2 0 down;shut 0 1 right;shut 1 1 right;").half(), 2);
        due("one of two", grid("grid 2 2;shut 0 0 down;shut 0 1 right;").half(), 1);
        due("at once", grid(ONCE).half(), 0);
        due("no pipe is free", new WaterGrid().half(), 0);
        due("none", grid(NEVER).half(), -1);
        due("none, no pipe is free", grid("grid 1 1;stone 0 0;").half(), -1);
        due("one of 24: 12 of 24 is just half", grid(ONE_OF_24).half(), 12);
        due("all", grid("grid 1 5;").half(), 4);
    }

    private void decides() {
        promise(36, "In how many CHOICES of all other PIPES, k of them open, a PIPE DECIDES (0 of what k there is not). IllegalStateException: it is not FREE.");
        WaterGrid g = grid(SQUARE);
        due("two by two", g.decides(0, 0, true, 0) + " " + g.decides(0, 0, true, 1) + " " + g.decides(0, 0, true, 2) + " "
                + g.decides(0, 0, true, 3), "1 2 1 0");
        noneBeyond("three others", 3, k -> g.decides(0, 0, true, k));
        WaterGrid column = grid("grid 1 5;");
        due("the last k", column.decides(0, 3, true, 3) + " " + column.decides(0, 3, true, 2), "1 0");
        noneBeyond("three others in a column", 3, k -> column.decides(0, 3, true, k));
        due("no other", grid("grid 1 2;").decides(0, 0, true, 0), 1);
        noneBeyond("no other", 0, k -> grid("grid 1 2;").decides(0, 0, true, k));
        WaterGrid full = grid(FULL);
        due("24 free", full.decides(0, 0, true, 2) + " " + full.decides(0, 0, true, 1) + " " + full.decides(0, 0, true, 23), "1 0 0");
        due("24 free, 3 of a row of pipes down are shut", full.decides(0, 0, true, 20), 1);
        noneBeyond("24 free", 23, k -> full.decides(0, 0, true, k));
        WaterGrid single = grid(ONE_OF_24);
        due("one of 24 always does", single.decides(4, 3, true, 0) + " " + single.decides(4, 3, true, 1) + " "
                + single.decides(4, 3, true, 11) + " " + single.decides(4, 3, true, 23), "1 23 1352078 1");
        noneBeyond("one of 24", 23, k -> single.decides(4, 3, true, k));
        refused("open", STATE, () -> grid("grid 1 2;open 0 0 down;").decides(0, 0, true, 0));
        refused("shut", STATE, () -> grid("grid 1 2;shut 0 0 down;").decides(0, 0, true, 0));
        refused("by a stone", STATE, () -> grid("grid 1 2;stone 0 0;").decides(0, 0, true, 0));
        refused("not free, no such k", STATE, () -> grid("grid 1 2;open 0 0 down;").decides(0, 0, true, -1));
        noPipe("decides", (x, y, down) -> g.decides(x, y, down, 0));
    }

    private void leader() {
        term("LEADER by a CHANCE: the FREE PIPE that DECIDES with the greatest chance; of several the least number.");
        promise(37, "LEADER; NONE: no PIPE is FREE. IllegalArgumentException: the CHANCE is none.");
        due("no pipe is free", new WaterGrid().leader(1, 2), -1);
        due("no pipe is free, some are told", grid("grid 2 2;open 0 0 right;open 0 0 down;shut 1 0 down;shut 0 1 right;").leader(1, 2), -1);
        due("of two the least number", grid(SQUARE).leader(1, 2), 1);
        due("none decides: the least number", grid("grid 2 1;").leader(1, 2), 0);
        due("none decides: the least that is free", grid("grid 2 2;open 0 0 down;shut 0 0 right;").leader(1, 2), 3);
        due("the greater number decides", grid("grid 2 3;shut 1 1 down;").leader(1, 2), 11);
        due("the last of 24", grid(ONE_OF_24).leader(1, 2), 39);
        due("never open: one alone can do it", grid("grid 3 2;shut 0 0 down;").leader(0, 6), 3);
        due("always open: none decides", grid(SQUARE).leader(6, 6), 0);
        due("always open: the column's first", grid("grid 2 2;shut 0 0 right;shut 1 0 down;shut 0 1 right;").leader(6, 6), 1);
    }

    /**
     * One of pipes 3 and 5, then pipe 23 or a way of two at its left or right. By small chances 23 decides most, as
     * (2p - pp)(1 - pp)(1 - pp), by great ones 3, as (1 - p)(1 - (1 - p)(1 - pp)(1 - pp)).
     */
    private void leaders() {
        term("LEADER by a CHANCE: the FREE PIPE that DECIDES with the greatest chance");
        String text = "grid 3 4;shut 0 0 right;shut 0 0 down;shut 1 0 right;open 0 1 right;shut 0 1 down;open 1 1 right;"
                + "open 1 1 down;shut 2 1 down;";
        WaterGrid used = grid(text);
        for (int round = 0; round < 2; round++) {
            due("1, 3, 5 of 6", used.leader(1, 6) + " " + used.leader(3, 6) + " " + used.leader(5, 6), "23 23 3");
            due("1, 5 of 6, again", used.leader(1, 6) + " " + used.leader(5, 6), "23 3");
            due("1 of 5, of 6, of 2", used.leader(1, 5) + " " + used.leader(1, 6) + " " + used.leader(1, 2), "23 23 23");
            due("1 of 3, then 1 of 1", used.leader(1, 3) + " " + used.leader(1, 1), "23 3");
            due("1 of 6, then 1 of 1", used.leader(1, 6) + " " + used.leader(1, 1), "23 3");
            due("1 of 1, then 1 of 6", used.leader(1, 1) + " " + used.leader(1, 6), "3 23");
            due("rank by 5, 1 of 6", used.rank(1, 2, true, 5, 6) + " " + used.rank(1, 2, true, 1, 6), "2 0");
            due("rank of the other", used.rank(1, 0, true, 5, 6) + " " + used.rank(1, 0, true, 1, 6), "0 1");
            due("never open, always open", used.leader(0, 6) + " " + used.leader(6, 6), "3 3");
        }
        used.tell(2, 0, true, 2);
        due("without 5 all ways need 3", used.leader(1, 6) + " " + used.leader(5, 6), "3 3");
        used.undo();
        due("undone", used.rank(1, 2, true, 5, 6), 2);
    }

    private void rank() {
        promise(38, "How many FREE PIPES DECIDE with a greater chance than a FREE one. IllegalArgumentException: the CHANCE is none; IllegalStateException: it is not FREE.");
        WaterGrid g = grid(SQUARE);
        due("the greatest", g.rank(0, 0, true, 1, 2), 0);
        due("as great", g.rank(1, 0, true, 1, 2), 0);
        due("behind both", g.rank(0, 0, false, 1, 2) + " " + g.rank(0, 1, false, 1, 2), "2 2");
        due("none decides", g.rank(0, 0, false, 6, 6) + " " + g.rank(1, 0, true, 6, 6), "0 0");
        due("the only one", grid("grid 1 2;").rank(0, 0, true, 0, 1), 0);
        due("one of 24, and another", grid(ONE_OF_24).rank(4, 3, true, 1, 6) + " " + grid(ONE_OF_24).rank(0, 4, false, 1, 6), "0 1");
        refused("open", STATE, () -> grid("grid 1 2;open 0 0 down;").rank(0, 0, true, 1, 2));
        refused("shut", STATE, () -> grid("grid 1 2;shut 0 0 down;").rank(0, 0, true, 1, 2));
        refused("by a stone", STATE, () -> grid("grid 1 2;stone 0 1;").rank(0, 0, true, 1, 2));
        noPipe("rank", (x, y, down) -> g.rank(x, y, down, 1, 2));
    }

    private void toOpen() {
        term("FEWEST to OPEN: FREE PIPES that must be open so that it JOINS; FEWEST to SHUT: so that it does not, all others being open; none, if it cannot be.");
        promise(39, "FEWEST to OPEN; NONE: none.");
        due("none", grid(NEVER).toOpen(), -1);
        due("none, no pipe is free", grid("grid 1 1;stone 0 0;").toOpen(), -1);
        due("at once", grid(ONCE).toOpen(), 0);
        due("one cell", new WaterGrid().toOpen(), 0);
        due("all", grid("grid 1 5;").toOpen(), 4);
        due("24 free", grid(FULL).toOpen(), 3);
        due("to and fro, a row of three each time", grid("grid 3 5;shut 1 0 down;shut 2 0 down;shut 0 1 down;shut 1 1 down;"
                + "shut 1 2 down;shut 2 2 down;shut 0 3 down;shut 1 3 down;").toOpen(), 10);
        due("one of 24", grid(ONE_OF_24).toOpen(), 1);
    }

    private void toShut() {
        promise(40, "FEWEST to SHUT; NONE: none.");
        due("none", grid(ONCE).toShut(), -1);
        due("none, one cell", new WaterGrid().toShut(), -1);
        due("none, one row", grid("grid 3 1;").toShut(), -1);
        due("it does not anyway", grid(NEVER).toShut(), 0);
        due("it does not anyway, no pipe is free", grid("grid 1 1;stone 0 0;").toShut(), 0);
        due("one", grid("grid 1 5;").toShut(), 1);
        due("all that are free", grid("grid 5 2;open 0 0 right;open 1 0 right;open 2 0 right;open 3 0 right;open 0 1 right;"
                + "open 1 1 right;open 2 1 right;open 3 1 right;").toShut(), 5);
        due("24 free", grid(FULL).toShut(), 4);
        due("one of 24", grid(ONE_OF_24).toShut(), 1);
    }

    private void drawn() {
        promise(41, "DRAWN, what 0 1 if it JOINS, else 0, 1 how many CELLS are WET, 2 how many FREE PIPES are open, 3 the last ROW with a CELL that is WET (NONE). IllegalArgumentException: the CHANCE is none; NoSuchElementException: another what.");
        WaterGrid g = grid(SQUARE);
        for (int what : new int[] {-1, 4, 5, LEAST, MOST}) refused("what " + what, ELEMENT, () -> g.drawn(1, 1, 2, what));
        due("none open", drawnBy(g, 1, 0, 6), "0 2 0 0");
        due("all open", drawnBy(g, 1, 6, 6), "1 4 4 1");
        due("no cell is wet", drawnBy(grid("grid 1 2;stone 0 0;"), 1, 1, 1), "0 0 0 -1");
        due("one row", drawnBy(grid("grid 5 1;"), 1, 0, 1), "1 5 0 0");
        due("the last row of five", drawnBy(grid("grid 1 5;"), 1, 1, 1), "1 5 4 4");
        due("the last but one", drawnBy(grid("grid 1 5;shut 0 3 down;"), 1, 1, 1), "0 4 3 3");
        due("24 free, all open", drawnBy(grid(FULL), LEAST, 6, 6), "1 16 24 3");
        due("told open ones are not drawn", drawnBy(grid("grid 1 3;open 0 0 down;"), 1, 0, 1), "0 2 0 1");
        due("water goes up, too", drawnBy(grid("grid 2 3;open 0 0 down;open 0 1 down;open 0 2 right;open 1 1 down;shut 0 1 right;"
                + "shut 1 0 down;"), 1, 0, 1), "1 6 0 2");
        due("nothing is told", g.count(2) + " " + g.count(6), "4 0");
    }

    private static String drawnBy(WaterGrid g, int seed, int a, int b) {
        return g.drawn(seed, a, b, 0) + " " + g.drawn(seed, a, b, 1) + " " + g.drawn(seed, a, b, 2) + " " + g.drawn(seed, a, b, 3);
    }

    /** The seed as a number that goes round by itself: no int's overflow is trusted here. */
    private static BigInteger next(BigInteger seed) {
        return seed.multiply(BigInteger.valueOf(1103515245)).add(BigInteger.valueOf(12345)).mod(power(2, 32));
    }

    private static int bits(BigInteger seed) { return seed.shiftRight(16).mod(power(2, 15)).intValueExact(); }

    private void seeds() {
        term("DRAWN by a SEED (any int), a CHANCE: PIPE by PIPE by numbers, FREE ones alone: the SEED becomes 1103515245 times it and 12345 more (in ints that go round), its bits 16 to 30, as a number, modulo b: open, if that is less than a.");
        String text = "grid 3 3;open 0 0 right;shut 1 1 down;";
        for (int seed : SEEDS) {
            for (int b = 1; b <= 6; b++) {
                for (int a = 0; a <= b; a++) {
                    WaterGrid g = grid(text);
                    String want = drawnText(g, seed, a, b);
                    g.drain(seed, a, b);
                    due("seed " + seed + " by " + a + " / " + b, Check.written(g), want);
                    due("so many open by seed " + seed, grid(text).drawn(seed, a, b, 2), g.count(3) - 1);
                }
            }
        }
    }

    /** What is written of a grid of three by three, its free pipes drawn. */
    private static String drawnText(WaterGrid g, int first, int a, int b) {
        StringBuilder text = new StringBuilder(Check.written(g));
        BigInteger seed = BigInteger.valueOf(first).mod(power(2, 32));
        for (Pipe p : pipes(3, 3)) {
            if (g.pipe(p.x(), p.y(), p.down()) != 0) continue;
            seed = next(seed);
            boolean open = bits(seed) % b < a;
            int at = p.down() ? 12 * p.y() + 6 + 2 * p.x() : 12 * p.y() + 2 * p.x() + 1;
            text.setCharAt(at, open ? (p.down() ? '|' : '-') : ' ');
        }
        return text.toString();
    }

    private void oneByOne() {
        promise(42, "ONE BY ONE: how many are opened (last false), or the number of the PIPE that is opened last (NONE: it JOINS at once); NONE of both: it never JOINS.");
        for (int seed : SEEDS) {
            due("at once", one(ONCE, seed), "0 -1");
            due("at once, no pipe is free", one("grid 1 1;", seed), "0 -1");
            due("never", one(NEVER, seed), "-1 -1");
            due("never, no pipe is free", one("grid 1 1;stone 0 0;", seed), "-1 -1");
            due("the only one", one("grid 1 2;", seed), "1 1");
            due("the only one, of a great number", one(WIDE_STONES, seed), "1 39");
        }
        WaterGrid g = grid(SQUARE);
        g.oneByOne(1, true);
        due("nothing is told", g.count(2) + " " + g.count(6), "4 0");
    }

    private static String one(String text, int seed) {
        WaterGrid g = grid(text);
        return g.oneByOne(seed, false) + " " + g.oneByOne(seed, true);
    }

    private void orders() {
        term("ORDER: at first by numbers; for k from how many there are down to 2 the SEED goes on as for DRAWN, and the k-th one changes places with that one whose place (0 the first) those bits, as a number, modulo k, tell.");
        for (int seed : SEEDS) {
            // Of all that are free one alone lets the water down: it is the one that is opened last.
            for (int x = 0; x < 5; x++) {
                StringBuilder text = new StringBuilder("grid 5 2;");
                for (int other = 0; other < 5; other++) if (other != x) text.append("shut " + other + " 0 down;");
                List<Integer> order = order(List.of(0, 2, 4, 6, 1 + 2 * x, 10, 12, 14, 16), seed);
                due("seed " + seed, one(text.toString(), seed), order.indexOf(1 + 2 * x) + 1 + " " + (1 + 2 * x));
            }
            // All are needed: the last one of the order.
            List<Integer> order = order(List.of(1, 11, 21, 31), seed);
            due("all by seed " + seed, one("grid 1 5;", seed), 4 + " " + order.get(3));
            WaterGrid most = grid(ONE_OF_24);
            List<Integer> free = new ArrayList<>();
            for (Pipe p : pipes(5, 5)) if (most.pipe(p.x(), p.y(), p.down()) == 0) free.add(10 * p.y() + 2 * p.x() + (p.down() ? 1 : 0));
            due("one of 24 by seed " + seed, one(ONE_OF_24, seed), order(free, seed).indexOf(39) + 1 + " 39");
            List<Integer> two = order(List.of(1, 11), seed);
            due("two by seed " + seed, one("grid 1 3;", seed), 2 + " " + two.get(1));
        }
    }

    private static List<Integer> order(List<Integer> numbers, int first) {
        List<Integer> order = new ArrayList<>(numbers);
        Collections.sort(order);
        BigInteger seed = BigInteger.valueOf(first).mod(power(2, 32));
        for (int k = order.size(); k >= 2; k--) {
            seed = next(seed);
            Collections.swap(order, k - 1, bits(seed) % k);
        }
        return order;
    }
}
