import java.util.List;

/** Chances, means, orders, deciders, draws. */
final class TermChance extends Terms {
    TermChance(Check check, Doc doc) { super(check, doc); }

    @Override
    void sentences() {
        chances();
        means();
        oneByOne();
        rows();
        deciders();
        fewest();
        drawn();
    }

    private void chances() {
        says("==== 3. CHANCE a / b (b 1 to 6, a 0 to b): each FREE PIPE is open by it.");
        WaterGrid one = grid("grid 1 2;");
        String[] lowest = {"0/1 1/1", "0/1 1/2 1/1", "0/1 1/3 2/3 1/1", "0/1 1/4 1/2 3/4 1/1", "0/1 1/5 2/5 3/5 4/5 1/1",
            "0/1 1/6 1/3 1/2 2/3 5/6 1/1"};
        for (int b = 1; b <= 6; b++) {
            String all = "";
            for (int a = 0; a <= b; a++) all += value(one, a, b) + " ";
            due("one pipe, b " + b, all.trim(), lowest[b - 1]);
        }
        refused("1 / 7", ARGUMENT, () -> one.value(1, 7, true));
        refused("0 / 0", ARGUMENT, () -> one.value(0, 0, true));
        refused("3 / 2", ARGUMENT, () -> one.value(3, 2, true));
        refused("-1 / 2", ARGUMENT, () -> one.value(-1, 2, true));
        says("VALUE: the chance that it JOINS, a fraction in lowest terms.");
        due("three in a column by 2 / 3", value(grid("grid 1 4;"), 2, 3), "8/27");
        due("two by two by 1 / 3", value(grid(SQUARE), 1, 3), "5/9");
        due("open ones are open", value(grid("grid 1 4;open 0 1 down;"), 2, 3), "4/9");
        due("never", value(grid("grid 1 2;shut 0 0 down;"), 1, 1), "0/1");
        due("always", value(grid("grid 1 2;open 0 0 down;"), 0, 1), "1/1");
    }

    private static String mean(WaterGrid g) { return fraction(g.mean(false), g.mean(true)); }

    private void means() {
        says("MEAN: FREE PIPES are opened one by one, by chance, all orders alike likely: how many on the average until it JOINS (0, "
                + "if it JOINS at once), in lowest terms; none, if it never does.");
        due("all of a column", mean(grid("grid 1 5;")), "4/1");
        due("the first one of two among four", mean(grid(SQUARE)), "5/3");
        due("one among three", mean(grid("grid 2 2;shut 0 0 down;shut 0 1 right;")), "3/2");
        due("at once", mean(grid("grid 2 2;open 0 0 down;")), "0/1");
        due("never", grid("grid 1 3;shut 0 0 down;").mean(false) + " " + grid("grid 1 3;shut 0 0 down;").mean(true), "-1 -1");
        says("HALF: the least k so that JOINS k is at least half of all CHOICES with k open PIPES; none.");
        due("just half", grid(SQUARE).half(), 1);
        due("all", grid("grid 1 4;").half(), 3);
        due("one among three", grid("grid 2 2;shut 0 0 down;").half(), 2);
        due("at once", new WaterGrid().half(), 0);
        due("none", grid("grid 1 3;shut 0 0 down;").half(), -1);
    }

    private void oneByOne() {
        says("ONE BY ONE by a SEED: the FREE PIPES in an ORDER are opened until it JOINS.");
        WaterGrid column = grid("grid 1 5;");
        for (int seed = -5; seed <= 5; seed++) due("all of a column by " + seed, column.oneByOne(seed, false), 4);
        due("at once", grid("grid 2 2;open 0 0 down;").oneByOne(1, false) + " " + grid("grid 2 2;open 0 0 down;").oneByOne(1, true), "0 -1");
        says("ORDER: at first by numbers; for k from how many there are down to 2 the SEED goes on as for DRAWN, and the k-th one "
                + "changes places with that one whose place (0 the first) those bits, as a number, modulo k, tell.");
        for (int seed : new int[] {0, 1, 2, 3, -1, 77, 123456789, LEAST, MOST}) {
            List<Integer> order = order(column, seed);
            due("the last of a column by " + seed, column.oneByOne(seed, true), order.get(3));
            WaterGrid full = grid(FULL);
            // One pipe of the middle is left to open: its place in the order is how many are opened.
            for (int y = 0; y < 3; y++) for (int x = 0; x < 4; x++) full.tell(x, y, true, x == 0 && y != 1 ? 1 : x == 0 ? 0 : 2);
            order = order(full, seed);
            due("how many till pipe 11 by " + seed, full.oneByOne(seed, false), order.indexOf(11) + 1);
            due("pipe 11 by " + seed, full.oneByOne(seed, true), 11);
        }
    }

    private static List<Integer> order(WaterGrid g, int seed) {
        List<Integer> order = freeNumbers(g);
        int next = seed;
        for (int k = order.size(); k >= 2; k--) {
            next = nextSeed(next);
            java.util.Collections.swap(order, k - 1, bitsOf(next) % k);
        }
        return order;
    }

    private void rows() {
        says("WETNESS by a CHANCE (b 1 to 5): how many CELLS of the last ROW are WET on the average, in lowest terms.");
        WaterGrid g = grid(SQUARE);
        // Each cell by its own pipe (1 / 2), or else by the other one and the pipe between (1 / 8).
        due("two by two by 1 / 2", fraction(g.wetness(1, 2, false), g.wetness(1, 2, true)), "5/4");
        due("a row of three", fraction(grid("grid 3 1;").wetness(1, 5, false), grid("grid 3 1;").wetness(1, 5, true)), "3/1");
        due("two apart by 2 / 5", fraction(grid("grid 2 2;shut 0 1 right;").wetness(2, 5, false),
                grid("grid 2 2;shut 0 1 right;").wetness(2, 5, true)), "4/5");
        refused("b 6", ARGUMENT, () -> g.wetness(1, 6, true));
        says("LIKELIEST STATE of a ROW: the one to which the most CHOICES lead in all (of several the first).");
        due("00 by 8 of 16", g.likeliest(1, false) + " " + g.likeliest(1, true), "0 8");
        WaterGrid stays = grid("grid 2 2;shut 0 0 down;");
        due("00 by 2, 10 by 2, 11 by 2, 12 by 2 of 8", stays.likeliest(1, false) + " " + stays.likeliest(1, true), "0 2");
        WaterGrid down = grid("grid 2 3;shut 0 1 right;shut 0 2 right;shut 0 1 down;shut 0 0 right;");
        // Behind a pipe that is shut the right one of two is wet by both of its pipes alone.
        due("12 by three of four", down.likeliest(2, false) + " " + down.likeliest(2, true), "1 6");
    }

    private void deciders() {
        says("DECIDES: a FREE PIPE does in a CHOICE of all other ones, if it JOINS with that PIPE open, and not with it shut.");
        WaterGrid g = grid(SQUARE);
        due("a pipe down, where the other one is shut", decides(g, 0, 0, true), "1 2 1 0");
        due("a pipe right never", decides(g, 0, 0, false), "0 0 0 0");
        due("one of a column, where all others are open", decides(grid("grid 1 4;"), 0, 1, true), "0 0 1");
        says("PIPES by numbers: 10 times y, 2 times x together, and 1 more, if it goes down.");
        StringBuilder stones = new StringBuilder("grid 5 5;");
        for (int i = 0; i < 25; i++) stones.append("stone ").append(i % 5).append(' ').append(i / 5).append(';');
        for (Pipe p : pipes(5, 5)) {
            WaterGrid alone = grid(stones.toString());
            alone.put(p.x(), p.y(), false);
            alone.put(p.down() ? p.x() : p.x() + 1, p.down() ? p.y() + 1 : p.y(), false);
            due("the only free one, " + p, alone.leader(1, 2), 10 * p.y() + 2 * p.x() + (p.down() ? 1 : 0));
        }
        says("LEADER by a CHANCE: the FREE PIPE that DECIDES with the greatest chance; of several the least number.");
        due("of two alike the first", g.leader(1, 2), 1);
        due("where none decides the first", grid("grid 2 1;").leader(1, 2), 0);
        due("one that all ways need", grid("grid 2 3;shut 0 0 right;shut 0 1 right;shut 1 1 down;").leader(1, 2), 1);
        // Down at the left by two, at the right by one: the one decides where the two are not both open.
        due("one against two", grid("grid 2 3;shut 0 0 right;shut 0 1 right;shut 0 2 right;open 1 0 down;").leader(1, 2), 13);
    }

    private static String decides(WaterGrid g, int x, int y, boolean down) {
        StringBuilder all = new StringBuilder();
        for (int k = 0; k < g.count(2); k++) all.append(g.decides(x, y, down, k)).append(' ');
        return all.toString().trim();
    }

    private void fewest() {
        says("FEWEST to OPEN: FREE PIPES that must be open so that it JOINS; FEWEST to SHUT: so that it does not, all others being "
                + "open; none, if it cannot be.");
        due("three rows, four columns", grid("grid 4 3;").toOpen() + " " + grid("grid 4 3;").toShut(), "2 4");
        due("open ones need not be opened", grid("grid 4 3;open 1 1 down;").toOpen(), 1);
        due("nor shut ones shut", grid("grid 4 3;shut 1 1 down;").toShut(), 3);
        due("around what is open", grid("grid 2 3;open 0 0 down;").toShut(), 2);
        due("joined at once", grid("grid 1 2;open 0 0 down;").toOpen() + " " + grid("grid 1 2;open 0 0 down;").toShut(), "0 -1");
        due("never joined", grid("grid 1 2;shut 0 0 down;").toOpen() + " " + grid("grid 1 2;shut 0 0 down;").toShut(), "-1 0");
    }

    private void drawn() {
        says("DRAWN by a SEED (any int), a CHANCE: PIPE by PIPE by numbers, FREE ones alone: the SEED becomes 1103515245 times it and "
                + "12345 more (in ints that go round), its bits 16 to 30, as a number, modulo b: open, if that is less than a.");
        for (int seed : new int[] {0, 1, 2, -1, -2, 99, 1 << 30, LEAST, MOST}) {
            for (int b = 1; b <= 6; b++) {
                for (int a = 0; a <= b; a++) drawnAs(seed, a, b);
            }
        }
    }

    /** By draining: each free pipe is told as drawn, so that it can be seen. */
    private void drawnAs(int seed, int a, int b) {
        WaterGrid g = grid("grid 3 3;open 1 0 down;shut 0 1 right;stone 2 2;");
        String want = "";
        int next = seed;
        int open = 0;
        for (int number : freeNumbers(g)) {
            next = nextSeed(next);
            boolean isOpen = bitsOf(next) % b < a;
            want += number + (isOpen ? "+ " : "- ");
            if (isOpen) open++;
        }
        due("how many are open by " + seed + ", " + a + " / " + b, g.drawn(seed, a, b, 2), open);
        List<Integer> numbers = freeNumbers(g);
        g.drain(seed, a, b);
        String got = "";
        for (int number : numbers) got += number + (g.pipe(number % 10 / 2, number / 10, number % 2 == 1) == 1 ? "+ " : "- ");
        due("which are open by " + seed + ", " + a + " / " + b, got, want);
    }
}
