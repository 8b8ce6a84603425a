import java.util.List;

/** Boundary cases of the text, its fault and the tape: the terms, promises 1 to 5. */
final class EdgeText extends Edges {
    private static final int BLANKS = 0x20202020;

    EdgeText(Check check, Doc doc) { super(check, doc); }

    @Override
    void run() {
        atFirst();
        mostBytes();
        shape();
        oneDigit();
        blanks();
        spans();
        sizes();
        cellsAndPipes();
        onceTold();
        stonesShut();
        mostFree();
        faultsOfTokens();
        faultsOfPipes();
        faultAtLength();
        feed();
        end();
        read();
        fault();
    }

    /** The fault of a text that comes on a new object; behind a wrong one nothing but the tape is another. */
    private void fault(String text, int want) {
        WaterGrid g = new WaterGrid();
        Check.feed(g, text);
        if (want < 0) {
            due("read of '" + text + "'", Check.answer(g::read), g.count(2));
        } else {
            refused("read of '" + text + "'", ARGUMENT, g::read);
            due("the grid behind '" + text + "'", Check.written(g), "o\n");
        }
        due("fault of '" + text + "'", g.fault(), want);
        due("the tape behind '" + text + "'", g.end(1), false);
    }

    private static String padded(String head, int length, String tail) {
        return head + " ".repeat(length - head.length() - tail.length()) + tail;
    }

    private void atFirst() {
        term("At first the GRID is \"grid 1 1;\".");
        promise(1, "One CELL.");
        WaterGrid g = new WaterGrid();
        String counts = "";
        for (int what = 0; what < 8; what++) counts += g.count(what) + " ";
        due("counts", counts, "1 1 0 0 0 0 0 0 ");
        due("its cell", g.stone(0, 0), false);
        refused("a second column", INDEX, () -> g.stone(1, 0));
        refused("a second row", INDEX, () -> g.stone(0, 1));
        refused("a pipe right", INDEX, () -> g.pipe(0, 0, false));
        refused("a pipe down", INDEX, () -> g.pipe(0, 0, true));
        due("it joins at once", g.joins(0), 1);
        due("written", Check.written(g), "o\n");
        due("like the text", Check.written(grid("grid 1 1;")), "o\n");
        due("no tape", new WaterGrid().end(1), false);
    }

    private void mostBytes() {
        term("THE TEXT has at most 400 bytes");
        WaterGrid g = grid(padded("grid 2 2;", 400, "open 0 1 right;"));
        due("the last line of 400 bytes is told", g.pipe(0, 1, false), 1);
        fault(padded("grid 2 2;", 400, "open 0 1 right;"), -1);
        fault(padded("grid 2 2;", 400, ""), -1);
        fault(padded("", 400, "grid 2 2;"), -1);
        fault(padded("grid 2 2;", 400, "x"), 399);
        fault(padded("grid 2 2;", 400, "open 0 1 right"), 400);
        fault(padded("grid 2 2;", 400, "open 0 1 righ"), 396);
        fault(padded("grid 2 2;", 400, "open 0 1"), 400);
        fault(padded("grid 2 2;", 399, "open 0 1"), 399);
        fault(" ".repeat(400), 400);
        for (String cut : new String[] {"grid", "grid 2", "grid 2 2"}) fault(padded("", 400, cut), 400);
        for (String cut : new String[] {"open", "shut 0", "stone", "stone 0", "stone 0 0"}) fault(padded("grid 2 2;", 400, cut), 400);
        fault("g".repeat(400), 0);
        fault("grid " + "1".repeat(395), 5);
        fault(padded(withFree(5, 5, 25, "shut"), 400, ""), 400);
        WaterGrid full = new WaterGrid();
        Check.feed(full, padded("grid 2 2;", 400, "stone 1 1;"));
        due("no byte more", full.feed(BLANKS, BLANKS, BLANKS, BLANKS, BLANKS), -1);
        due("the 400 are read", full.read(), 2);
    }

    private void shape() {
        term("grid N N ; { LINE ; }. LINE: open N N WAY | shut N N WAY | stone N N. WAY: right or down.");
        fault("grid 2 2;", -1);
        fault("grid 2 2;stone 0 0;", -1);
        fault("grid 2 2;open 0 0 right;open 0 0 down;shut 0 1 right;shut 1 0 down;stone 1 1;", -1);
        due("each line is told", Check.written(grid("grid 2 2;open 0 0 right;shut 0 0 down;stone 1 1;")), "o-o\n   \no #\n");
        fault("grid 2;", 6);
        fault("grid 2 2", 8);
        fault("grid 2 2 2;", 9);
        fault("grid 2 2;;", 9);
        fault("grid 2 2;grid 2 2;", 9);
        fault("open 0 0 right;", 0);
        fault("grid 2 2;open 0 0;", 17);
        fault("grid 2 2;open 0 right;", 16);
        fault("grid 2 2;open right;", 14);
        fault("grid 2 2;stone 0;", 16);
        fault("grid 2 2;stone 0 0 down;", 19);
        fault("grid 2 2;stone 0 0 0;", 19);
        fault("grid 2 2;open 0 0 right down;", 24);
        fault("grid 2 2;open 0 0 left;", 18);
        fault("grid 2 2;open 0 0 up;", 18);
        fault("grid 2 2;free 0 0 right;", 9);
    }

    private void oneDigit() {
        term("N: one digit.");
        String[] heads = {"grid ", "grid 2 ", "grid 2 2;open ", "grid 2 2;open 0 ", "grid 2 2;shut ", "grid 2 2;shut 0 ",
            "grid 2 2;stone ", "grid 2 2;stone 0 "};
        String[] tails = {" 2;", ";", " 0 right;", " right;", " 0 right;", " right;", " 0;", ";"};
        for (int i = 0; i < heads.length; i++) {
            fault(heads[i] + "1" + tails[i], heads[i].endsWith("open ") || heads[i].endsWith("shut ")
                    ? heads[i].length() + 4 : -1);
            for (String two : new String[] {"01", "10", "11", "00", "001", "12345", "4294967297", "18446744073709551617"}) {
                fault(heads[i] + two + tails[i], heads[i].length());
            }
            fault(heads[i] + "-1" + tails[i], heads[i].length());
            fault(heads[i] + "+1" + tails[i], heads[i].length());
        }
    }

    private void blanks() {
        term("BLANKS (9, 10, 32) may stand between all");
        for (int b = 0; b < 256; b++) {
            String sign = String.valueOf((char) b);
            boolean blank = b == 9 || b == 10 || b == 32;
            boolean digit = b >= '0' && b <= '9';
            fault(sign + "grid 2 2;", blank ? -1 : 0);
            fault("grid" + sign + "2 2;", blank ? -1 : digit ? 4 : b >= 'a' && b <= 'z' ? 0 : 4);
            fault("grid 2 2" + sign + ";", blank ? -1 : digit ? 7 : b == ';' ? 9 : 8);
            fault("grid 2 2;" + sign, blank ? -1 : 9);
            fault("grid 2 2;" + sign + "stone 0 0;", blank ? -1 : 9);
            fault("gr" + sign + "id 2 2;", 0);
        }
        fault("\t\n grid\t\n 2\t\n 2\t\n ;\t\n stone\t\n 0\t\n 0\t\n ;\t\n shut\t\n 1\t\n 1\t\n right\t\n ;", 57);
        fault("\t\n grid\t\n 2\t\n 2\t\n ;\t\n stone\t\n 0\t\n 0\t\n ;\t\n shut\t\n 0\t\n 1\t\n right\t\n ;\t\n ", -1);
        fault("grid2 2;stone0 0;open0 0right;shut0 0down;", -1);
        fault("grid22;", 4);
    }

    private void spans() {
        term("words are as many small letters as stand there, numbers as many digits.");
        fault("gridd 2 2;", 0);
        fault("gridopen 2 2;", 0);
        fault("grid 2 2;openx 0 0 right;", 9);
        fault("grid 2 2;shutt 0 0 right;", 9);
        fault("grid 2 2;stones 0 0;", 9);
        fault("grid 2 2;open 0 0 rightdown;", 18);
        fault("grid 2 2;open 0 0 downn;", 18);
        fault("grid 2 2;open 0 0 dow n;", 18);
        fault("Grid 2 2;", 0);
        fault("gRid 2 2;", 0);
        fault("gridA 2 2;", 4);
        // What stands beside the small letters, and beside the digits.
        for (String sign : new String[] {"`", "{", "Z", "/", ":"}) {
            fault("grid" + sign + "2 2;", 4);
            fault("grid 2" + sign + "2;", 6);
            fault("grid " + sign + " 2;", 5);
        }
        fault("grid 2 2;open 0 0right;", -1);
    }

    private void sizes() {
        term("COLUMNS and ROWS, 1 to 5 each");
        for (int columns = 0; columns <= 9; columns++) {
            for (int rows = 0; rows <= 9; rows++) {
                String text = "grid " + columns + " " + rows + ";";
                if (columns < 1 || columns > 5) fault(text, 5);
                else if (rows < 1 || rows > 5) fault(text, 7);
                else if (pipes(columns, rows).size() > 24) fault(text, 9);
                else fault(text, -1);
            }
        }
        for (int columns = 1; columns <= 5; columns++) {
            for (int rows = 1; rows <= 5; rows++) {
                WaterGrid g = grid(sized(columns, rows));
                due("columns, rows", g.count(0) + " " + g.count(1), columns + " " + rows);
                due("pipes", g.count(2) + g.count(3) + g.count(4), pipes(columns, rows).size());
            }
        }
    }

    private void cellsAndPipes() {
        term("CELLS (x, y), (0, 0) at the left of the TOP ROW.");
        due("the first cell", Check.written(grid("grid 2 2;stone 0 0;")), "# o\n  .\no.o\n");
        due("the last cell", Check.written(grid("grid 2 2;stone 1 1;")), "o.o\n.  \no #\n");
        due("x tells the column", Check.written(grid("grid 2 2;stone 1 0;")), "o #\n.  \no.o\n");
        term("PIPES: from each CELL right to the next one of its ROW, down to the one below it, where there is one.");
        due("right", Check.written(grid("grid 2 2;open 0 1 right;")), "o.o\n. .\no-o\n");
        due("down", Check.written(grid("grid 2 2;open 1 0 down;")), "o.o\n. |\no.o\n");
    }

    private void onceTold() {
        term("A PIPE is FREE at first, or told OPEN, or SHUT (each at most once)");
        due("free at first", grid("grid 2 1;").pipe(0, 0, false), 0);
        due("open", grid("grid 2 1;open 0 0 right;").pipe(0, 0, false), 1);
        due("shut", grid("grid 2 1;shut 0 0 right;").pipe(0, 0, false), 2);
        for (String first : new String[] {"open", "shut"}) {
            for (String second : new String[] {"open", "shut"}) {
                fault("grid 2 2;" + first + " 0 0 down;" + second + " 0 0 down;", 32);
                fault("grid 2 2;" + first + " 0 0 down;" + second + " 0 0 right;", -1);
                fault("grid 2 2;" + first + " 0 0 down;" + second + " 1 0 down;", -1);
                fault("grid 2 2;" + first + " 0 1 right;stone 0 1;" + second + " 0 1 right;", 43);
            }
        }
        term("a STONE is a CELL (each told at most once)");
        fault("grid 2 2;stone 1 0;stone 1 0;", 27);
        fault("grid 2 2;stone 1 0;stone 1 1;stone 0 0;stone 0 1;", -1);
        fault("grid 2 2;stone 1 0;stone 0 1;stone 1  0;", 38);
    }

    private void stonesShut() {
        term("all of whose PIPES are SHUT, whatever was told of them.");
        String open = "open 1 0 down;open 0 1 right;open 1 1 right;open 1 1 down;";
        for (String text : new String[] {open + "stone 1 1;", "stone 1 1;" + open, "stone 1 1;", open.replace("open", "shut") + "stone 1 1;"}) {
            WaterGrid g = grid("grid 3 3;" + text);
            String around = "" + g.pipe(1, 0, true) + g.pipe(0, 1, false) + g.pipe(1, 1, false) + g.pipe(1, 1, true);
            due("all four of " + text, around, "2222");
            due("no other of " + text, g.count(4) + " " + g.count(2) + " " + g.count(3), "4 8 0");
        }
        WaterGrid corners = grid("grid 3 3;stone 0 0;stone 2 2;");
        due("at corners", corners.count(4), 4);
        due("two beside each other", grid("grid 3 1;stone 0 0;stone 1 0;").count(4), 2);
    }

    private void mostFree() {
        term("At most 24 PIPES may be FREE.");
        due("just 24 in all", grid(FULL).count(2), 24);
        for (String how : new String[] {"open", "shut"}) {
            for (int[] size : new int[][] {{5, 4}, {4, 5}, {5, 5}}) {
                due("just 24", grid(withFree(size[0], size[1], 24, how)).count(2), 24);
                String text = withFree(size[0], size[1], 25, how);
                fault(text, text.length());
                fault(text + " \n", text.length() + 2);
            }
        }
        due("23 by stones", grid("grid 5 4;stone 1 1;stone 3 2;").count(2), 23);
        due("24 by stones", grid("grid 5 4;stone 1 1;stone 4 2;").count(2), 24);
        fault("grid 5 4;stone 1 0;stone 3 0;", 29);
        due("a pipe told free below a stone is none", grid("grid 5 4;stone 1 0;stone 3 0;shut 0 2 right;").count(2), 24);
        fault("grid 5 4;stone 1 0;stone 3 0;shut 0 0 right;", 44);
    }

    private void faultsOfTokens() {
        term("THE FAULT: the first byte with which no such text goes on (a word, a number at its first byte: one too long, out of bounds;");
        List<String> tokens = List.of("grid", "3", "2", ";", "open", "0", "0", "right", ";", "shut", "1", "1", "right", ";",
                "stone", "2", "1", ";");
        for (int i = 0; i < tokens.size(); i++) {
            String head = String.join(" ", tokens.subList(0, i)) + (i > 0 ? " " : "");
            String tail = " " + String.join(" ", tokens.subList(i + 1, tokens.size()));
            for (String wrong : wrongFor(tokens.get(i))) {
                fault(head + wrong + tail, head.length());
                fault(head + wrong, head.length());
                fault(head + "\n\t" + wrong + tail, head.length() + 2);
            }
        }
        fault("grid 2 2;open 2 0 right;", 14);
        fault("grid 2 2;open 0 2 right;", 16);
        fault("grid 2 2;open 9 9 right;", 14);
        fault("grid 2 2;stone 2 0;", 15);
        fault("grid 2 2;stone 0 2;", 17);
        fault("grid 5 2;stone 4 1;", -1);
        fault("grid 5 2;stone 1 4;", 17);
        fault("grid 2 5;stone 1 4;", -1);
        fault("grid 2 5;stone 4 1;", 15);
        fault("gri", 0);
        fault("grid 2 2;ope", 9);
        fault("grid 2 2;open 0 0 righ", 18);
    }

    /** Tokens that cannot stand where a right one stands. */
    private static String[] wrongFor(String token) {
        if (token.equals(";")) return new String[] {",", ":", "<", "x", "7", "."};
        if (Character.isDigit(token.charAt(0))) return new String[] {"6", "9", "00", "12", "x", ";", "#", "right"};
        String tail = token.substring(1);
        String head = token.substring(0, token.length() - 1);
        return new String[] {token + "x", "x" + token, tail, head, "x" + tail, head + "x", token.toUpperCase(), "1", ";", "#", "left"};
    }

    private void faultsOfPipes() {
        term("a PIPE that there is not, or that was told already, at right, down; a STONE that was told already at its second number)");
        for (int columns = 1; columns <= 5; columns++) {
            for (int rows = 1; rows <= 5; rows++) {
                for (int x : new int[] {0, columns - 1, columns}) {
                    for (int y : new int[] {0, rows - 1, rows}) {
                        lineAt(columns, rows, new Pipe(x, y, false));
                        lineAt(columns, rows, new Pipe(x, y, true));
                    }
                }
            }
        }
        fault("grid 2 2;open 1 0 right;", 18);
        fault("grid 2 2;open 0 1 down;", 18);
        fault("grid 2 2;open 1 0\n\n right;", 20);
        fault("grid 2 2;open 0 0 right;open 0 0 right;", 33);
        fault("grid 2 2;stone 0 1;stone 0 1;", 27);
        fault("grid 2 2;stone 0 1;stone 0 1", 27);
    }

    private void lineAt(int columns, int rows, Pipe pipe) {
        String head = "grid " + columns + " " + rows + ";";
        String text = head + pipe.told("shut");
        int free = pipes(columns, rows).size() - 1;
        if (pipe.x() >= columns) fault(text, 14);
        else if (pipe.y() >= rows) fault(text, 16);
        else if (!pipes(columns, rows).contains(pipe)) fault(text, 18);
        else fault(text, free > 24 ? text.length() : -1);
    }

    private void faultAtLength() {
        term("the text's length, if more must come, and where more than 24 PIPES are FREE.");
        List<String> tokens = List.of("grid", "3", "2", ";", "open", "0", "0", "right", ";", "stone", "2", "1", ";");
        for (int i = 0; i <= tokens.size(); i++) {
            String head = String.join(" ", tokens.subList(0, i));
            boolean whole = head.endsWith(";");
            for (String blanks : new String[] {"", " ", "\n\t "}) {
                fault(head + blanks, whole ? -1 : head.length() + blanks.length());
            }
        }
        fault("grid 5 5;", 9);
        fault("grid 5 5;\t\t", 11);
        fault("grid 5 5;stone 9 0;", 15);
        fault("grid 5 5;x", 9);
    }

    private static void fill(WaterGrid g, int bytes) {
        for (int i = 0; i < bytes; i += 20) g.feed(BLANKS, BLANKS, BLANKS, BLANKS, BLANKS);
        g.end(bytes);
    }

    private void feed() {
        promise(2, "Twenty bytes come behind the TAPE, of each number the highest first: how many it has");
        WaterGrid g = new WaterGrid();
        for (int i = 1; i <= 20; i++) due("feed", g.feed(BLANKS, BLANKS, BLANKS, BLANKS, BLANKS), 20 * i);
        WaterGrid order = new WaterGrid();
        order.feed(0x67726964, 0x20322033, 0x3b6f7065, 0x6e203120, 0x3120646f);
        due("behind what is there", order.feed(0x776e3b20, BLANKS, BLANKS, BLANKS, BLANKS), 40);
        order.read();
        due("in its order", Check.written(order), "o.o\n. .\no.o\n. |\no.o\n");
        promise(2, "NONE, and none come, if it would have more than 400.");
        for (int n = 379; n <= 400; n++) {
            WaterGrid near = new WaterGrid();
            fill(near, n);
            boolean fits = n + 20 <= 400;
            due("feed behind " + n, near.feed(-1, -1, -1, -1, -1), fits ? n + 20 : -1);
            due("the tape has no more", near.end((fits ? n + 20 : n) + 1), false);
            due("the tape has as many", near.end(fits ? n + 20 : n), true);
            refused("blanks alone, or bytes 255 behind them", ARGUMENT, near::read);
            due("none came behind " + n, near.fault(), n);
        }
    }

    private void end() {
        promise(3, "The TAPE has its first n bytes alone: true; false, and nothing happens, if it has fewer, or n is below 0.");
        WaterGrid g = new WaterGrid();
        due("none of none", g.end(0), true);
        due("one of none", g.end(1), false);
        Check.feed(g, "grid 2 1;stone 0 0;");
        for (int wrong : new int[] {20, 21, 400, 401, -1, -19, LEAST, MOST}) due("end of " + wrong, g.end(wrong), false);
        due("all stay", g.end(19), true);
        due("it stays cut", g.end(20), false);
        due("the first nine", g.end(9), true);
        due("no tenth", g.end(10), false);
        due("the first nine are read", g.read(), 1);
        String whole = "grid 2 2;stone 1 1;open 0 0 right;shut 0 0 down;";
        for (int n = 0; n <= whole.length(); n++) {
            WaterGrid cut = new WaterGrid();
            Check.feed(cut, whole);
            cut.end(n);
            Check.answer(cut::read);
            due("what was cut off behind " + n + " is not read", cut.fault(), Check.faultOf(whole.substring(0, n)));
        }
        Check.feed(g, "grid 2 1;");
        due("to nothing", g.end(0), true);
        refused("nothing to read", ARGUMENT, g::read);
        due("from the first byte", g.feed(0x67726964, 0x20332031, 0x3b202020, BLANKS, BLANKS), 20);
        due("read behind", g.read(), 2);
    }

    private void read() {
        promise(4, "Uses the TAPE up: it is THE TEXT (in place of the one before; nothing can be undone; what is KEPT stays): how many PIPES are FREE.");
        WaterGrid g = grid("grid 2 2;");
        g.keep();
        g.write();
        for (int i = 0; i < 16; i++) g.tell(0, 0, true, 1 + i % 2);
        Check.feed(g, "grid 3 2;stone 1 1;open 0 0 down;");
        due("free pipes", g.read(), 3);
        due("used up", g.end(1), false);
        due("nothing can be undone", g.undo(), -1);
        due("no acts", g.count(6), 0);
        due("in its place", Check.written(g), "o.o.o\n|   .\no # o\n");
        due("what is kept stays: 1 of 4 is more than 0 of 3", g.compare(), -1);
        refused("kept are four free pipes", STATE, g::beats);
        due("none is free", Check.answer(() -> reread(g, "grid 1 1;")), 0);
        due("24 are free", Check.answer(() -> reread(g, FULL)), 24);
        promise(4, "IllegalArgumentException: the text is wrong.");
        WaterGrid wrong = grid("grid 2 2;stone 0 0;");
        wrong.keep();
        wrong.tell(0, 1, false, 1);
        for (String text : new String[] {"", "grid 2 2", "grid 5 5;", "x", "grid 1 1;stone 0 1;"}) {
            Check.feed(wrong, text);
            refused("read of '" + text + "'", ARGUMENT, wrong::read);
            due("used up", wrong.end(1), false);
            due("the grid stays", Check.written(wrong), "# o\n  .\no-o\n");
        }
        due("what is kept stays: 1 of 1 is more than 1 of 2", wrong.compare(), 1);
        due("what can be undone stays", wrong.undo(), 0);
        due("what was told stays", wrong.pipe(0, 1, false), 0);
    }

    private static int reread(WaterGrid g, String text) {
        Check.feed(g, text);
        return g.read();
    }

    private void fault() {
        promise(5, "THE FAULT of the latest read(); NONE without one, and ahead of any.");
        WaterGrid g = new WaterGrid();
        due("ahead of any", g.fault(), -1);
        Check.feed(g, "grid 6 1;");
        due("not yet read", g.fault(), -1);
        refused("wrong", ARGUMENT, g::read);
        due("its fault", g.fault(), 5);
        Check.feed(g, "grid 1 6;");
        due("of the latest that was read", g.fault(), 5);
        refused("wrong again", ARGUMENT, g::read);
        due("of the latest", g.fault(), 7);
        refused("no text", ARGUMENT, g::read);
        due("at byte 0", g.fault(), 0);
        refused("another call throws", INDEX, () -> g.stone(9, 9));
        due("it stays", g.fault(), 0);
        reread(g, "grid 1 1;");
        due("without one", g.fault(), -1);
    }
}
