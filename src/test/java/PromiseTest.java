/** One method for each promise: ordinary inputs, the edges that the document names, wrong inputs. */
public final class PromiseTest {
    private static final int NONE = -1, OUTSIDE = -2, STATE = -3, ROOM = -4, WIDE = -5;
    private static final int LOW = Integer.MIN_VALUE, HIGH = Integer.MAX_VALUE;
    private static int wrong = 0;
    private static int checked = 0;

    private static void due(String call, int got, int want) {
        checked++;
        if (got != want) {
            wrong++;
            System.out.println(call + " answered " + got + ", due is " + want);
        }
    }

    public static void main(String[] args) {
        constants();
        promise1NewObject();
        promise2Hall();
        promise3Wall();
        promise4Guard();
        promise5Leave();
        promise6Cell();
        promise7Runs();
        promise8Run();
        promise9Sees();
        promise10Seen();
        promise11Missed();
        promise12More();
        promise12MoreWide();
        promise13Peace();
        promise14Box();
        promise15Square();
        promise16Drop();
        promise17Pack();
        promise17PackSteps();
        promise18Tried();
        promise19Place();
        promise20Left();
        hallsAndBoxesAreApart();
        System.out.println(checked + " answers looked at, " + wrong + " not as due");
        if (wrong != 0) {
            System.exit(1);
        }
    }

    /** A hall from rows of text: '#' shut, '.' open, 'G' open with a guard. */
    private static GuardPacks hallOf(String... rows) {
        GuardPacks x = new GuardPacks();
        due("hall", x.hall(rows[0].length(), rows.length), rows[0].length() * rows.length);
        int guards = 0;
        for (int v = 0; v < rows.length; v++) {
            for (int u = 0; u < rows[v].length(); u++) {
                char kind = rows[v].charAt(u);
                if (kind == '#') {
                    due("wall", x.wall(u, v, false), 1);
                } else if (kind == 'G') {
                    due("guard", x.guard(u, v), ++guards);
                }
            }
        }
        return x;
    }

    private static GuardPacks boxOf(int a, int b, int... sides) {
        GuardPacks x = new GuardPacks();
        due("box", x.box(a, b), a * b);
        for (int i = 0; i < sides.length; i++) {
            due("square", x.square(sides[i]), i);
        }
        return x;
    }

    private static void cells(String what, GuardPacks x, String... rows) {
        for (int v = 0; v < rows.length; v++) {
            for (int u = 0; u < rows[v].length(); u++) {
                due(what + " cell(" + u + ", " + v + ")", x.cell(u, v), rows[v].charAt(u) - '0');
            }
        }
    }

    private static void places(String what, GuardPacks x, int... xy) {
        for (int i = 0; i < xy.length / 2; i++) {
            due(what + " place(" + i + ", 0)", x.place(i, 0), xy[2 * i]);
            due(what + " place(" + i + ", 1)", x.place(i, 1), xy[2 * i + 1]);
        }
    }

    private static void constants() {
        due("NONE", GuardPacks.NONE, NONE);
        due("OUTSIDE", GuardPacks.OUTSIDE, OUTSIDE);
        due("STATE", GuardPacks.STATE, STATE);
        due("ROOM", GuardPacks.ROOM, ROOM);
        due("WIDE", GuardPacks.WIDE, WIDE);
    }

    private static void promise1NewObject() {
        GuardPacks x = new GuardPacks();
        due("1 cell", x.cell(0, 0), 1);
        due("1 cell right of it", x.cell(1, 0), OUTSIDE);
        due("1 cell below it", x.cell(0, 1), OUTSIDE);
        due("1 runs(0)", x.runs(0), 1);
        due("1 runs(1)", x.runs(1), 1);
        due("1 run(0)", x.run(0, 0, 0), 0);
        due("1 run(1)", x.run(0, 0, 1), 0);
        due("1 sees", x.sees(0, 0), 1);
        due("1 seen", x.seen(), 0);
        due("1 missed", x.missed(0), 0);
        due("1 missed(1)", x.missed(1), NONE);
        due("1 more", x.more(), 1);
        due("1 peace", x.peace(), 1);
        due("1 leave", x.leave(0, 0), STATE);
        due("1 guard", x.guard(0, 0), 1);
        due("1 left", x.left(), 1);
        due("1 tried", x.tried(), 0);
        due("1 place", x.place(0, 0), NONE);
        due("1 drop", x.drop(), STATE);
        due("1 square", x.square(1), 0);
        due("1 pack", x.pack(1), 1);
        due("1 tried then", x.tried(), 1);
        due("1 a second square", x.square(1), 1);
        due("1 pack of two", x.pack(10), 0);
    }

    private static void promise2Hall() {
        GuardPacks x = new GuardPacks();
        due("2 hall(8, 8)", x.hall(8, 8), 64);
        due("2 hall(1, 8)", x.hall(1, 8), 8);
        due("2 hall(8, 1)", x.hall(8, 1), 8);
        due("2 hall(3, 2)", x.hall(3, 2), 6);
        due("2 width", x.cell(2, 1), 1);
        due("2 beyond width", x.cell(3, 0), OUTSIDE);
        due("2 beyond height", x.cell(0, 2), OUTSIDE);
        x.wall(0, 0, false);
        x.guard(1, 1);
        int[][] refused = {{0, 1}, {1, 0}, {9, 1}, {1, 9}, {-1, 3}, {3, -1}, {LOW, 3}, {3, LOW}, {HIGH, 3}, {3, HIGH}};
        for (int[] size : refused) {
            due("2 hall(" + size[0] + ", " + size[1] + ")", x.hall(size[0], size[1]), OUTSIDE);
        }
        cells("2 refused", x, "021", "232");
        due("2 same size anew", x.hall(3, 2), 6);
        cells("2 anew", x, "111", "111");
        due("2 guards anew", x.guard(0, 0), 1);
        due("2 smaller", x.hall(2, 2), 4);
        due("2 larger", x.hall(4, 4), 16);
        cells("2 larger", x, "1111", "1111", "1111", "1111");
    }

    private static void promise3Wall() {
        GuardPacks x = hallOf("...", "...");
        due("3 shut", x.wall(2, 1, false), 1);
        due("3 shut again", x.wall(2, 1, false), 0);
        due("3 kind", x.cell(2, 1), 0);
        due("3 others stay", x.cell(1, 1), 1);
        due("3 open", x.wall(2, 1, true), 1);
        due("3 open again", x.wall(2, 1, true), 0);
        due("3 kind open", x.cell(2, 1), 1);
        int[][] refused = {{-1, 0}, {3, 0}, {0, -1}, {0, 2}, {LOW, 0}, {0, LOW}, {HIGH, 0}, {0, HIGH}};
        for (int[] at : refused) {
            due("3 wall(" + at[0] + ", " + at[1] + ")", x.wall(at[0], at[1], false), OUTSIDE);
        }
        cells("3 refused", x, "111", "111");
        x.guard(1, 0);
        due("3 guard there, shut", x.wall(1, 0, false), STATE);
        due("3 guard there, open", x.wall(1, 0, true), STATE);
        cells("3 guard stays", x, "232", "121");
        due("3 beside a guard", x.wall(0, 0, false), 1);
        due("3 below a guard", x.wall(1, 1, false), 1);
        cells("3 walls stop sight", x, "032", "101");
        due("3 seen", x.seen(), 2);
        due("3 sight again", x.wall(1, 1, true), 1);
        due("3 seen again", x.seen(), 3);
        x.leave(1, 0);
        due("3 guard gone", x.wall(1, 0, false), 1);
    }

    private static void promise4Guard() {
        GuardPacks x = hallOf("..#", "...");
        due("4 first", x.guard(0, 0), 1);
        due("4 second", x.guard(2, 1), 2);
        due("4 there is one", x.guard(0, 0), STATE);
        due("4 shut", x.guard(2, 0), STATE);
        int[][] refused = {{-1, 0}, {3, 0}, {0, -1}, {0, 2}, {LOW, 0}, {0, LOW}, {HIGH, 0}, {0, HIGH}};
        for (int[] at : refused) {
            due("4 guard(" + at[0] + ", " + at[1] + ")", x.guard(at[0], at[1]), OUTSIDE);
        }
        cells("4 after", x, "320", "223");
        due("4 third", x.guard(1, 1), 3);
        due("4 all seen", x.seen(), 5);
        due("4 fourth", x.guard(0, 1), 4);
        due("4 fifth", x.guard(1, 0), 5);
    }

    private static void promise5Leave() {
        GuardPacks x = hallOf("G.G", "#..", "..G");
        due("5 none there", x.leave(1, 0), STATE);
        due("5 shut", x.leave(0, 1), STATE);
        due("5 outside x", x.leave(3, 0), OUTSIDE);
        due("5 outside y", x.leave(0, 3), OUTSIDE);
        due("5 below 0 x", x.leave(-1, 0), OUTSIDE);
        due("5 below 0 y", x.leave(0, -1), OUTSIDE);
        due("5 low", x.leave(LOW, HIGH), OUTSIDE);
        cells("5 refused", x, "323", "012", "223");
        due("5 one goes", x.leave(2, 0), 2);
        cells("5 the others see on", x, "322", "012", "223");
        due("5 gone", x.leave(2, 0), STATE);
        due("5 another goes", x.leave(0, 0), 1);
        cells("5 one is left", x, "112", "012", "223");
        due("5 the last", x.leave(2, 2), 0);
        cells("5 none is left", x, "111", "011", "111");
        due("5 comes again", x.guard(2, 2), 1);
    }

    private static void promise6Cell() {
        GuardPacks x = hallOf("..#.", ".G.#", "....");
        cells("6", x, "1201", "2320", "1211");
        due("6 x at width", x.cell(4, 0), OUTSIDE);
        due("6 y at height", x.cell(0, 3), OUTSIDE);
        due("6 x below 0", x.cell(-1, 1), OUTSIDE);
        due("6 y below 0", x.cell(1, -1), OUTSIDE);
        due("6 low", x.cell(LOW, LOW), OUTSIDE);
        due("6 high", x.cell(HIGH, HIGH), OUTSIDE);
    }

    private static void promise7Runs() {
        GuardPacks x = hallOf("..#.", "####", ".#.#");
        due("7 rows", x.runs(0), 4);
        due("7 columns", x.runs(1), 5);
        due("7 below", x.runs(-1), OUTSIDE);
        due("7 above", x.runs(2), OUTSIDE);
        due("7 low", x.runs(LOW), OUTSIDE);
        due("7 high", x.runs(HIGH), OUTSIDE);
        GuardPacks shut = hallOf("##", "##");
        due("7 all shut rows", shut.runs(0), 0);
        due("7 all shut columns", shut.runs(1), 0);
        GuardPacks wide = hallOf("........", "........", "........");
        due("7 open rows", wide.runs(0), 3);
        due("7 open columns", wide.runs(1), 8);
        wide.wall(3, 1, false);
        due("7 a wall parts rows", wide.runs(0), 4);
        due("7 a wall parts columns", wide.runs(1), 9);
        wide.wall(3, 1, true);
        due("7 open again rows", wide.runs(0), 3);
        due("7 open again columns", wide.runs(1), 8);
    }

    private static void promise8Run() {
        GuardPacks x = hallOf(".#..", "....", "#.#.");
        int[][] rows = {{0, NONE, 1, 1}, {2, 2, 2, 2}, {NONE, 3, NONE, 4}};
        // The second column's run has a greater least cell than the runs right of it.
        int[][] columns = {{0, NONE, 1, 2}, {0, 3, 1, 2}, {NONE, 3, NONE, 2}};
        for (int v = 0; v < 3; v++) {
            for (int u = 0; u < 4; u++) {
                due("8 run(" + u + ", " + v + ", 0)", x.run(u, v, 0), rows[v][u]);
                due("8 run(" + u + ", " + v + ", 1)", x.run(u, v, 1), columns[v][u]);
            }
        }
        due("8 x at width", x.run(4, 0, 0), OUTSIDE);
        due("8 y at height", x.run(0, 3, 0), OUTSIDE);
        due("8 x below 0", x.run(-1, 0, 1), OUTSIDE);
        due("8 y below 0", x.run(0, -1, 1), OUTSIDE);
        due("8 direction 2", x.run(0, 0, 2), OUTSIDE);
        due("8 direction -1", x.run(0, 0, -1), OUTSIDE);
        due("8 shut, direction 2", x.run(1, 0, 2), OUTSIDE);
        due("8 low", x.run(0, 0, LOW), OUTSIDE);
    }

    private static void promise9Sees() {
        GuardPacks x = hallOf("..#.", "....", "#.#.");
        int[][] sight = {{3, 4, 0, 3}, {5, 6, 4, 6}, {0, 3, 0, 3}};
        for (int v = 0; v < 3; v++) {
            for (int u = 0; u < 4; u++) {
                due("9 sees(" + u + ", " + v + ")", x.sees(u, v), sight[v][u]);
            }
        }
        x.guard(1, 1);
        due("9 where a guard is", x.sees(1, 1), 6);
        due("9 through guards", x.sees(0, 1), 5);
        due("9 x at width", x.sees(4, 0), OUTSIDE);
        due("9 y at height", x.sees(0, 3), OUTSIDE);
        due("9 x below 0", x.sees(-1, 0), OUTSIDE);
        due("9 y below 0", x.sees(0, -1), OUTSIDE);
        due("9 greatest", hallOf("........", "........", "........", "........",
                "........", "........", "........", "........").sees(3, 4), 15);
    }

    private static void promise10Seen() {
        GuardPacks x = hallOf("..#.", "....", "#.#.");
        due("10 none", x.seen(), 0);
        x.guard(1, 1);
        due("10 one", x.seen(), 6);
        x.guard(3, 1);
        due("10 no cell twice", x.seen(), 8);
        x.guard(0, 0);
        due("10 all but shut ones", x.seen(), 9);
        x.leave(1, 1);
        x.leave(3, 1);
        due("10 fewer", x.seen(), 3);
        due("10 all shut", hallOf("##").seen(), 0);
    }

    private static void promise11Missed() {
        GuardPacks x = hallOf("..#.", "G...", "#.#.");
        int[] missed = {1, 3, 9, 11};
        for (int i = 0; i < missed.length; i++) {
            due("11 missed(" + i + ")", x.missed(i), missed[i]);
        }
        due("11 behind the last", x.missed(4), NONE);
        due("11 below 0", x.missed(-1), NONE);
        due("11 low", x.missed(LOW), NONE);
        due("11 high", x.missed(HIGH), NONE);
        x.leave(0, 1);
        due("11 first", x.missed(0), 0);
        due("11 last", x.missed(8), 11);
        due("11 behind it", x.missed(9), NONE);
        due("11 all shut", hallOf("#").missed(0), NONE);
        due("11 all seen", hallOf("G.").missed(0), NONE);
        due("11 the 63rd", hallOf("........", "........", "........", "........",
                "........", "........", "........", "........").missed(63), 63);
    }

    private static void promise12More() {
        due("12 open 3 by 2", hallOf("...", "...").more(), 2);
        due("12 open 8 by 3", hallOf("........", "........", "........").more(), 3);
        due("12 all shut", hallOf("##", "##").more(), 0);
        due("12 all seen", hallOf("G.", ".G").more(), 0);
        due("12 one guard of two", hallOf("G.", "..").more(), 1);
        // Runs without a pair each need a guard of their own.
        due("12 cells apart", hallOf(".#.", "#.#", ".#.").more(), 5);
        // A cross is seen whole from its middle alone.
        due("12 cross", hallOf("#.#", "...", "#.#").more(), 1);
        due("12 cross, guard at an end", hallOf("#G#", "...", "#.#").more(), 1);
        due("12 cross, guard in the middle", hallOf("#.#", ".G.", "#.#").more(), 0);
        // Both spines of this comb have to be watched, though no one cell is in both.
        due("12 comb", hallOf(".....", ".#.#.", ".#.#.").more(), 3);
        due("12 few columns, many rows", hallOf(".#.", ".#.", ".#.", ".#.", ".#.", ".#.", ".#.", ".#.").more(), 2);
        due("12 few rows, many columns", hallOf("........", "########", "........").more(), 2);
        GuardPacks x = hallOf("....", "....", "....", "....");
        due("12 open", x.more(), 4);
        x.guard(0, 0);
        x.guard(1, 0);
        due("12 two guards in one row", x.more(), 2);
        x.guard(2, 0);
        due("12 three guards in one row", x.more(), 1);
        due("12 the same again", x.more(), 1);
        due("12 guards stay as they are", x.guard(3, 3), 4);
        due("12 now none", x.more(), 0);
    }

    private static void promise12MoreWide() {
        // 12 runs of rows and of columns each, all of one cell.
        GuardPacks x = hallOf(".#.#.#.#", "#.#.#.#.", ".#.#.#.#");
        due("12 rows", x.runs(0), 12);
        due("12 columns", x.runs(1), 12);
        due("12 told at 12", x.more(), 12);
        GuardPacks wide = hallOf(".#.#.#.#", "#.#.#.#.", ".#.#.#.#", "#######.");
        due("12 13 rows", wide.runs(0), 13);
        due("12 13 columns", wide.runs(1), 13);
        due("12 wide", wide.more(), WIDE);
        due("12 one shut", wide.wall(7, 3, false), 1);
        due("12 told again", wide.more(), 12);
        GuardPacks tall = hallOf(".#.#.#.#", ".#.#.#.#", ".#.#.#.#", ".#.#.#.#");
        due("12 16 rows", tall.runs(0), 16);
        due("12 4 columns", tall.runs(1), 4);
        due("12 told by columns", tall.more(), 4);
        GuardPacks flat = hallOf("....", "####", "....", "####", "....", "####", "....");
        due("12 4 rows", flat.runs(0), 4);
        due("12 16 columns", flat.runs(1), 16);
        due("12 told by rows", flat.more(), 4);
        GuardPacks watched = hallOf("G#G#G#G#", "#G#G#G#G", "G#G#G#G#", "#######G");
        due("12 all seen", watched.seen(), 13);
        due("12 wide though all are seen", watched.more(), WIDE);
    }

    private static void promise13Peace() {
        due("13 open 3 by 2", hallOf("...", "...").peace(), 2);
        due("13 row", hallOf("........").peace(), 1);
        due("13 all shut", hallOf("##", "##").peace(), 0);
        due("13 cells apart", hallOf(".#.", "#.#", ".#.").peace(), 5);
        due("13 cross", hallOf("#.#", "...", "#.#").peace(), 2);
        due("13 ring", hallOf("...", ".#.", "...").peace(), 4);
        due("13 wall between", hallOf(".#.").peace(), 2);
        // The first cell of the first row has to give way to the one below it.
        due("13 giving way", hallOf("...", ".##", "..#").peace(), 3);
        due("13 guards don't matter", hallOf("GG", "G.").peace(), 2);
        due("13 open 8 by 8", hallOf("........", "........", "........", "........",
                "........", "........", "........", "........").peace(), 8);
        due("13 32 runs", hallOf(".#.#.#.#", "#.#.#.#.", ".#.#.#.#", "#.#.#.#.",
                ".#.#.#.#", "#.#.#.#.", ".#.#.#.#", "#.#.#.#.").peace(), 32);
    }

    private static void promise14Box() {
        GuardPacks x = new GuardPacks();
        due("14 box(12, 12)", x.box(12, 12), 144);
        due("14 box(1, 12)", x.box(1, 12), 12);
        due("14 box(12, 1)", x.box(12, 1), 12);
        due("14 box(5, 2)", x.box(5, 2), 10);
        x.square(2);
        x.square(2);
        due("14 pack", x.pack(100), 1);
        int[][] refused = {{0, 1}, {1, 0}, {13, 1}, {1, 13}, {-1, 5}, {5, -1}, {LOW, 1}, {1, LOW},
            {HIGH, 1}, {1, HIGH}};
        for (int[] size : refused) {
            due("14 box(" + size[0] + ", " + size[1] + ")", x.box(size[0], size[1]), OUTSIDE);
        }
        due("14 refused, left", x.left(), 2);
        places("14 refused", x, 0, 0, 2, 0);
        due("14 same size anew", x.box(5, 2), 10);
        due("14 no squares", x.left(), 10);
        due("14 no places", x.place(0, 0), NONE);
        due("14 drop", x.drop(), STATE);
        due("14 numbers anew", x.square(1), 0);
    }

    private static void promise15Square() {
        GuardPacks x = boxOf(12, 12);
        int[] refused = {0, -1, 13, LOW, HIGH};
        for (int side : refused) {
            due("15 square(" + side + ")", x.square(side), OUTSIDE);
        }
        due("15 refused, left", x.left(), 144);
        due("15 greatest", x.square(12), 0);
        for (int number = 1; number < 8; number++) {
            due("15 number", x.square(1), number);
        }
        due("15 room", x.square(1), ROOM);
        due("15 room again", x.square(12), ROOM);
        due("15 outside is ahead of room", x.square(13), OUTSIDE);
        due("15 outside is ahead of room, 0", x.square(0), OUTSIDE);
        due("15 refused, left at the end", x.left(), -7);
        due("15 after drop", x.drop(), 7);
        due("15 room for one", x.square(2), 7);
        due("15 none for two", x.square(2), ROOM);
        GuardPacks small = boxOf(2, 2);
        due("15 wider than the box", small.square(3), 0);
    }

    private static void promise16Drop() {
        GuardPacks x = boxOf(4, 4, 2, 1, 3);
        due("16 last", x.drop(), 2);
        due("16 left", x.left(), 11);
        due("16 pack", x.pack(100), 1);
        due("16 next", x.drop(), 1);
        due("16 first", x.drop(), 0);
        due("16 none", x.drop(), STATE);
        due("16 none again", x.drop(), STATE);
        due("16 left then", x.left(), 16);
        due("16 number", x.square(4), 0);
    }

    private static void promise17Pack() {
        GuardPacks x = boxOf(5, 3, 2, 3);
        due("17 packed", x.pack(100000), 1);
        places("17 packed", x, 0, 0, 2, 0);
        due("17 tried", x.tried(), 4);
        GuardPacks tall = boxOf(3, 5, 2, 3);
        due("17 tall", tall.pack(100000), 1);
        places("17 tall", tall, 0, 0, 0, 2);
        due("17 tall tried", tall.tried(), 4);
        // The first square has to make way for the second.
        GuardPacks way = boxOf(4, 3, 1, 3);
        due("17 makes way", way.pack(100000), 1);
        places("17 makes way", way, 0, 0, 1, 0);
        GuardPacks far = boxOf(3, 4, 1, 3);
        due("17 far", far.pack(100000), 1);
        places("17 far", far, 0, 0, 0, 1);
        GuardPacks back = boxOf(6, 4, 2, 4, 2);
        due("17 goes back", back.pack(100000), 1);
        places("17 goes back", back, 0, 0, 2, 0, 0, 2);
        GuardPacks moved = boxOf(5, 3, 1, 1, 3, 2);
        due("17 moved on", moved.pack(100000), 1);
        places("17 moved on", moved, 0, 0, 1, 0, 2, 0, 0, 1);
        GuardPacks tooMany = boxOf(2, 2, 1, 1, 1, 1, 1);
        due("17 can't be", tooMany.pack(100000), 0);
        due("17 can't be tried", tooMany.tried(), 4 + 4 * 4 + 12 * 4 + 24 * 4 + 24 * 4);
        due("17 wider than the box", boxOf(2, 5, 3).pack(100000), 0);
        due("17 higher than the box", boxOf(5, 2, 3).pack(100000), 0);
        due("17 none", boxOf(3, 3).pack(100000), 1);
        due("17 the whole box", boxOf(12, 12, 12).pack(100000), 1);
        due("17 eight", boxOf(8, 1, 1, 1, 1, 1, 1, 1, 1, 1).pack(36), 1);
    }

    private static void promise17PackSteps() {
        GuardPacks x = boxOf(8, 1, 1, 1, 1, 1, 1, 1, 1, 1);
        due("17 just enough", x.pack(36), 1);
        due("17 one fewer", x.pack(35), 2);
        due("17 no step", x.pack(0), 2);
        due("17 no step is needed", boxOf(3, 3).pack(0), 1);
        due("17 no place, no step", boxOf(3, 3, 4).pack(0), 0);
        GuardPacks later = boxOf(3, 3, 3, 4);
        due("17 no place for the second", later.pack(0), 2);
        due("17 no place for the second, one step", later.pack(1), 0);
        GuardPacks lone = boxOf(2, 2, 1, 2);
        due("17 can't be, told by", lone.pack(8), 0);
        due("17 can't be, tried", lone.tried(), 8);
        due("17 can't be, not told by", lone.pack(7), 2);
        int[] refused = {-1, 100001, LOW, HIGH};
        due("17 packed again", x.pack(100000), 1);
        for (int steps : refused) {
            due("17 pack(" + steps + ")", x.pack(steps), OUTSIDE);
        }
        due("17 refused, tried", x.tried(), 36);
        due("17 refused, place", x.place(7, 0), 7);
    }

    private static void promise18Tried() {
        GuardPacks x = boxOf(4, 4, 2, 2);
        due("18 before any", x.tried(), 0);
        due("18 refused", x.pack(-1), OUTSIDE);
        due("18 before any but a refused one", x.tried(), 0);
        x.pack(100000);
        due("18 packed", x.tried(), 4);
        due("18 refused again", x.pack(100001), OUTSIDE);
        due("18 as before", x.tried(), 4);
        x.square(1);
        due("18 after square", x.tried(), 4);
        x.drop();
        due("18 after drop", x.tried(), 4);
        x.box(3, 3);
        due("18 after box", x.tried(), 4);
        x.pack(100000);
        due("18 of no squares", x.tried(), 0);
        GuardPacks ended = boxOf(4, 4, 2, 2);
        ended.pack(3);
        due("18 ended", ended.tried(), 3);
        ended.pack(0);
        due("18 ended at once", ended.tried(), 0);
    }

    private static void promise19Place() {
        GuardPacks x = boxOf(5, 4, 3, 2, 1);
        due("19 before pack", x.place(0, 0), NONE);
        due("19 axis before pack", x.place(0, 2), OUTSIDE);
        due("19 pack", x.pack(100000), 1);
        places("19 packed", x, 0, 0, 3, 0, 3, 2);
        due("19 no such square", x.place(3, 0), NONE);
        due("19 square 7", x.place(7, 1), NONE);
        due("19 square 8", x.place(8, 0), NONE);
        due("19 square -1", x.place(-1, 0), NONE);
        due("19 low", x.place(LOW, 1), NONE);
        due("19 high", x.place(HIGH, 1), NONE);
        due("19 axis 2", x.place(0, 2), OUTSIDE);
        due("19 axis -1", x.place(0, -1), OUTSIDE);
        due("19 axis low", x.place(0, LOW), OUTSIDE);
        due("19 axis is ahead of the square", x.place(9, 2), OUTSIDE);
        due("19 refused pack", x.pack(-1), OUTSIDE);
        due("19 refused square", x.square(0), OUTSIDE);
        due("19 refused box", x.box(0, 1), OUTSIDE);
        places("19 after refused calls", x, 0, 0, 3, 0, 3, 2);
        due("19 drop", x.drop(), 2);
        due("19 after drop", x.place(0, 0), NONE);
        due("19 pack of two", x.pack(100000), 1);
        places("19 of two", x, 0, 0, 3, 0);
        due("19 square", x.square(4), 2);
        due("19 after square", x.place(0, 0), NONE);
        due("19 can't be", x.pack(100000), 0);
        due("19 after 0", x.place(0, 0), NONE);
        due("19 drop of the third", x.drop(), 2);
        due("19 ended", x.pack(2), 2);
        due("19 after 2", x.place(0, 0), NONE);
        due("19 packed", x.pack(100000), 1);
        due("19 there again", x.place(1, 0), 3);
        due("19 ended behind packed", x.pack(0), 2);
        due("19 after 2 again", x.place(1, 0), NONE);
        due("19 packed once more", x.pack(100000), 1);
        due("19 box", x.box(5, 4), 20);
        due("19 after box", x.place(0, 0), NONE);
        GuardPacks full = boxOf(8, 1, 1, 1, 1, 1, 1, 1, 1, 1);
        full.pack(100000);
        due("19 refused by room", full.square(1), ROOM);
        due("19 after room", full.place(7, 0), 7);
    }

    private static void promise20Left() {
        due("20 none", boxOf(7, 3).left(), 21);
        due("20 some", boxOf(7, 3, 2, 1).left(), 16);
        due("20 nothing", boxOf(4, 4, 2, 2, 2, 2).left(), 0);
        due("20 below 0", boxOf(1, 1, 2).left(), -3);
        due("20 least", boxOf(1, 1, 12, 12, 12, 12, 12, 12, 12, 12).left(), 1 - 8 * 144);
        GuardPacks x = boxOf(4, 4, 3, 3);
        due("20 can't lie", x.left(), -2);
        due("20 pack", x.pack(100000), 0);
        due("20 after pack", x.left(), -2);
        x.drop();
        due("20 after drop", x.left(), 7);
    }

    private static void hallsAndBoxesAreApart() {
        GuardPacks x = hallOf("G.", "#.");
        x.box(3, 3);
        x.square(2);
        x.pack(10);
        cells("apart", x, "32", "01");
        x.hall(2, 1);
        x.guard(0, 0);
        places("apart", x, 0, 0);
        due("apart tried", x.tried(), 1);
        GuardPacks other = new GuardPacks();
        due("another object", other.cell(0, 0), 1);
        due("another object's box", other.left(), 1);
    }
}
