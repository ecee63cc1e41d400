import java.util.ArrayList;
import java.util.List;

/**
 * A method for each sentence of the document that names a boundary case: too small, too large, empty, full, a
 * wrap-around, a refused call. No object gets more than 512 calls, since later answers are free.
 */
public final class BoundaryTest {
    private static final int NONE = -1, OUTSIDE = -2, STATE = -3, ROOM = -4, WIDE = -5;
    private static final int LOW = Integer.MIN_VALUE, HIGH = Integer.MAX_VALUE;
    private static final int ALL_STEPS = 100000;
    private static final String[] BOARD = {".#.#.#.#", "#.#.#.#.", ".#.#.#.#", "#.#.#.#.",
        ".#.#.#.#", "#.#.#.#.", ".#.#.#.#", "#.#.#.#."};
    private static int wrong = 0;
    private static int checked = 0;

    private interface Call {
        int on(GuardPacks x);
    }

    private interface Maker {
        GuardPacks make();
    }

    public static void main(String[] args) {
        newObject();
        hallSizesInBounds();
        hallSizesOutOfBounds();
        hallOfAnotherSizeForgetsTheOldOne();
        cellsAtTheEdges();
        cellsWhoseNumberWouldBeInBounds();
        directions();
        outsideIsAheadOfTheRestInHalls();
        refusedHallCallsChangeNothing();
        asksChangeNothing();
        runsUpToTheEdges();
        runsUpToAShutCell();
        runsBetweenShutCells();
        aShutCell();
        allShut();
        allShutButOne();
        allSeen();
        allSeenButOneRow();
        allGuarded();
        missedBelowAndAbove();
        moreAtTwelveRunsOfBoth();
        moreAtThirteenRunsOfRows();
        moreAtThirteenRunsOfColumns();
        moreAtThirteenRunsOfBoth();
        moreWithManyRunsOfOneDirection();
        moreWithGuardsAtTwelveRuns();
        peaceAtItsEdges();
        boxSizesInBounds();
        boxSizesOutOfBounds();
        boxOfAnotherSizeForgetsTheOldOne();
        sidesAtTheEdges();
        eightSquaresAtMost();
        outsideIsAheadOfRoom();
        dropOfNone();
        refusedBoxCallsChangeNothing();
        stepsAtTheEdges();
        packOfNoSquares();
        packOfASideAboveTheBox();
        placesByYThenX();
        placesUpToTheLastOne();
        placesBesideAndOnSquares();
        theOneAheadIsTriedOn();
        noneIsLeftForTheFirst();
        stepsEndAheadOfTheOneAbove();
        allStepsAreTried();
        triedBeforeAny();
        triedOfTheLatestThatWasNotRefused();
        placeBeforeAnyPack();
        placeSinceBox();
        placeSinceSquare();
        placeSinceDrop();
        placeOfAPackThatDidNotAnswer1();
        placeOfNoSuchSquare();
        placeOfNoSuchAxis();
        placeBehindRefusedCalls();
        leftAtItsEdges();
        System.out.println(checked + " answers looked at, " + wrong + " not as due");
        if (wrong != 0) {
            System.exit(1);
        }
    }

    // ---- what the methods below share

    private static void due(String call, int got, int want) {
        checked++;
        if (got != want) {
            wrong++;
            System.out.println(call + " answered " + got + ", due is " + want);
        }
    }

    /** The numbers at and beside both bounds, and the least and greatest there are. */
    private static int[] edges(int least, int greatest) {
        return new int[] {LOW, LOW + 1, least - 1, least, greatest, greatest + 1, HIGH - 1, HIGH};
    }

    private static boolean isWithin(int number, int least, int greatest) {
        return number >= least && number <= greatest;
    }

    /** A hall from rows of text: '#' shut, '.' open, 'G' open with a guard. */
    private static GuardPacks hallOf(String... rows) {
        GuardPacks x = new GuardPacks();
        due("hall", x.hall(rows[0].length(), rows.length), rows[0].length() * rows.length);
        int guards = 0;
        for (int v = 0; v < rows.length; v++) {
            for (int u = 0; u < rows[v].length(); u++) {
                if (rows[v].charAt(u) == '#') {
                    due("wall", x.wall(u, v, false), 1);
                } else if (rows[v].charAt(u) == 'G') {
                    due("guard", x.guard(u, v), ++guards);
                }
            }
        }
        return x;
    }

    private static String[] turned(String... rows) {
        String[] columns = new String[rows[0].length()];
        for (int u = 0; u < columns.length; u++) {
            StringBuilder column = new StringBuilder();
            for (String row : rows) {
                column.append(row.charAt(u));
            }
            columns[u] = column.toString();
        }
        return columns;
    }

    private static GuardPacks boxOf(int a, int b, int... sides) {
        GuardPacks x = new GuardPacks();
        addBox(x, a, b, sides);
        return x;
    }

    private static void addBox(GuardPacks x, int a, int b, int... sides) {
        due("box", x.box(a, b), a * b);
        for (int i = 0; i < sides.length; i++) {
            due("square", x.square(sides[i]), i);
        }
    }

    private static void places(String what, GuardPacks x, int... xy) {
        for (int i = 0; i < xy.length / 2; i++) {
            due(what + " place(" + i + ", 0)", x.place(i, 0), xy[2 * i]);
            due(what + " place(" + i + ", 1)", x.place(i, 1), xy[2 * i + 1]);
        }
    }

    private static void noPlaces(String what, GuardPacks x) {
        for (int i = 0; i < 8; i++) {
            due(what + " place(" + i + ", 0)", x.place(i, 0), NONE);
            due(what + " place(" + i + ", 1)", x.place(i, 1), NONE);
        }
    }

    /** All that can be asked of an object, and then what only changing calls tell of it. */
    private static List<Integer> look(GuardPacks x) {
        List<Integer> told = new ArrayList<>();
        lookAtHall(x, told);
        lookAtBox(x, told);
        return told;
    }

    private static void lookAtHall(GuardPacks x, List<Integer> told) {
        int w = 0;
        int h = 0;
        while (w < 9 && x.cell(w, 0) != OUTSIDE) {
            w++;
        }
        while (h < 9 && x.cell(0, h) != OUTSIDE) {
            h++;
        }
        told.add(w);
        told.add(h);
        told.add(x.runs(0));
        told.add(x.runs(1));
        told.add(x.seen());
        told.add(x.more());
        told.add(x.peace());
        for (int i = 0; i <= w * h; i++) {
            told.add(x.missed(i));
        }
        for (int cell = 0; cell < w * h; cell++) {
            told.add(x.cell(cell % w, cell / w));
            told.add(x.run(cell % w, cell / w, 0));
            told.add(x.run(cell % w, cell / w, 1));
            told.add(x.sees(cell % w, cell / w));
        }
        for (int cell = 0; cell < w * h; cell++) {
            told.add(x.leave(cell % w, cell / w));
        }
    }

    private static void lookAtBox(GuardPacks x, List<Integer> told) {
        told.add(x.tried());
        told.add(x.left());
        for (int i = 0; i < 8; i++) {
            told.add(x.place(i, 0));
            told.add(x.place(i, 1));
        }
        told.add(x.pack(ALL_STEPS));
        told.add(x.tried());
        for (int i = 0; i < 9; i++) {
            told.add(x.drop());
            told.add(x.left());
        }
    }

    private static void refused(String what, int want, Maker maker, Call call) {
        GuardPacks x = maker.make();
        due(what, call.on(x), want);
        sameAsWithout(what, maker, x);
    }

    private static void sameAsWithout(String what, Maker maker, GuardPacks x) {
        checked++;
        List<Integer> with = look(x);
        List<Integer> without = look(maker.make());
        if (!with.equals(without)) {
            wrong++;
            System.out.println(what + " changed the object: " + without + " was " + with);
        }
    }

    private static GuardPacks hallAndBox() {
        GuardPacks x = hallOf("G.#.", "..#G", ".#..");
        addBox(x, 5, 4, 3, 2, 1);
        due("pack", x.pack(ALL_STEPS), 1);
        return x;
    }

    // ---- promise 1

    /** "A HALL of 1 by 1, OPEN, no GUARDS; a BOX of 1 by 1, no SQUARES." */
    private static void newObject() {
        GuardPacks x = new GuardPacks();
        for (int u : edges(0, 0)) {
            for (int v : edges(0, 0)) {
                due("new cell(" + u + ", " + v + ")", x.cell(u, v), u == 0 && v == 0 ? 1 : OUTSIDE);
            }
        }
        due("new leave", x.leave(0, 0), STATE);
        due("new guard", x.guard(0, 0), 1);
        due("new guard again", x.guard(0, 0), STATE);
        due("new drop", x.drop(), STATE);
        due("new left", x.left(), 1);
        due("new pack", x.pack(0), 1);
        due("new square above the box", x.square(2), 0);
        due("new pack of it", x.pack(ALL_STEPS), 0);
        due("new drop of it", x.drop(), 0);
        due("new square as the box", x.square(1), 0);
        due("new pack of that", x.pack(1), 1);
    }

    // ---- promise 2

    /** "A HALL has W by H CELLS (1 to 8 each)": each of them, and no cell more. */
    private static void hallSizesInBounds() {
        for (int w = 1; w <= 8; w++) {
            for (int h = 1; h <= 8; h++) {
                GuardPacks x = new GuardPacks();
                String what = "hall(" + w + ", " + h + ")";
                due(what, x.hall(w, h), w * h);
                due(what + " last cell", x.cell(w - 1, h - 1), 1);
                due(what + " right of it", x.cell(w, h - 1), OUTSIDE);
                due(what + " below it", x.cell(w - 1, h), OUTSIDE);
                due(what + " last missed", x.missed(w * h - 1), w * h - 1);
                due(what + " behind it", x.missed(w * h), NONE);
                due(what + " more", x.more(), Math.min(w, h));
                due(what + " peace", x.peace(), Math.min(w, h));
            }
        }
    }

    /** The same, from the other side; a product that is in bounds, or wraps around, does not help. */
    private static void hallSizesOutOfBounds() {
        GuardPacks x = new GuardPacks();
        for (int w : edges(1, 8)) {
            for (int h : edges(1, 8)) {
                int want = isWithin(w, 1, 8) && isWithin(h, 1, 8) ? w * h : OUTSIDE;
                due("hall(" + w + ", " + h + ")", x.hall(w, h), want);
            }
        }
        int[][] products = {{-1, -1}, {-2, -4}, {16, 4}, {4, 16}, {64, 1}, {1, 64}, {65536, 65536}, {65537, 65536},
            {1 << 30, 4}, {4, 1 << 30}, {LOW, LOW}, {HIGH, HIGH}, {257, 8}, {8, 257}, {0, 0}};
        for (int[] size : products) {
            due("hall(" + size[0] + ", " + size[1] + ")", x.hall(size[0], size[1]), OUTSIDE);
        }
    }

    /** "Another HALL, all OPEN, no GUARDS". */
    private static void hallOfAnotherSizeForgetsTheOldOne() {
        int[][] sizes = {{8, 8}, {1, 1}, {8, 1}, {1, 8}, {4, 3}, {4, 3}, {3, 4}};
        for (int[] size : sizes) {
            GuardPacks x = hallOf("G#.#G#.#", "#.#G#.#.", "G.......", "########", "G######G");
            due("hall anew", x.hall(size[0], size[1]), size[0] * size[1]);
            due("hall anew, seen", x.seen(), 0);
            due("hall anew, rows", x.runs(0), size[1]);
            due("hall anew, columns", x.runs(1), size[0]);
            for (int v = 0; v < size[1]; v++) {
                for (int u = 0; u < size[0]; u++) {
                    due("hall anew, cell", x.cell(u, v), 1);
                    due("hall anew, missed", x.missed(v * size[0] + u), v * size[0] + u);
                    due("hall anew, leave", x.leave(u, v), STATE);
                }
            }
            due("hall anew, guard", x.guard(0, 0), 1);
        }
    }

    // ---- promises 3 to 6, 8 and 9: the cell

    /** Every call that takes a CELL, in a HALL of every size, at and beside its edges. */
    private static void cellsAtTheEdges() {
        for (int w = 1; w <= 8; w++) {
            for (int h = 1; h <= 8; h++) {
                for (int u : edges(0, w - 1)) {
                    GuardPacks x = new GuardPacks();
                    due("hall", x.hall(w, h), w * h);
                    for (int v : edges(0, h - 1)) {
                        cellCalls(x, w, h, u, v);
                    }
                }
            }
        }
    }

    private static void cellCalls(GuardPacks x, int w, int h, int u, int v) {
        boolean in = isWithin(u, 0, w - 1) && isWithin(v, 0, h - 1);
        String what = w + " by " + h + " at (" + u + ", " + v + ") ";
        due(what + "cell", x.cell(u, v), in ? 1 : OUTSIDE);
        due(what + "run 0", x.run(u, v, 0), in ? v : OUTSIDE);
        due(what + "run 1", x.run(u, v, 1), in ? u : OUTSIDE);
        due(what + "sees", x.sees(u, v), in ? w + h - 1 : OUTSIDE);
        due(what + "leave of none", x.leave(u, v), in ? STATE : OUTSIDE);
        due(what + "guard", x.guard(u, v), in ? 1 : OUTSIDE);
        due(what + "cell with a guard", x.cell(u, v), in ? 3 : OUTSIDE);
        due(what + "guard again", x.guard(u, v), in ? STATE : OUTSIDE);
        due(what + "shut a guard's", x.wall(u, v, false), in ? STATE : OUTSIDE);
        due(what + "open a guard's", x.wall(u, v, true), in ? STATE : OUTSIDE);
        due(what + "seen", x.seen(), in ? w + h - 1 : 0);
        due(what + "leave", x.leave(u, v), in ? 0 : OUTSIDE);
        due(what + "shut", x.wall(u, v, false), in ? 1 : OUTSIDE);
        due(what + "shut again", x.wall(u, v, false), in ? 0 : OUTSIDE);
        due(what + "cell that is shut", x.cell(u, v), in ? 0 : OUTSIDE);
        due(what + "guard where it is shut", x.guard(u, v), in ? STATE : OUTSIDE);
        due(what + "open", x.wall(u, v, true), in ? 1 : OUTSIDE);
        due(what + "open again", x.wall(u, v, true), in ? 0 : OUTSIDE);
        due(what + "all open", x.sees(0, 0), w + h - 1);
    }

    /** x or y is out of bounds, though y W + x is the number of a CELL, and one with a GUARD. */
    private static void cellsWhoseNumberWouldBeInBounds() {
        int[][] sizes = {{1, 8}, {2, 4}, {3, 3}, {4, 5}, {8, 3}};
        for (int[] size : sizes) {
            int w = size[0];
            int h = size[1];
            Maker maker = () -> {
                GuardPacks x = new GuardPacks();
                x.hall(w, h);
                for (int cell = 0; cell < w * h; cell++) {
                    x.guard(cell % w, cell / w);
                }
                return x;
            };
            int[][] at = {{w, 0}, {w * h - 1 + (h == 1 ? 1 : 0), 0}, {-1, 1}, {-w, 1}, {w, -1}, {2 * w, -2},
                {w - 1, h}, {-1, h}, {-w, h}, {0, LOW}, {1 << 30, 0}, {0, 1 << 30}, {0, 1 << 29}, {0, 3 << 29},
                {LOW, 1}, {-w * HIGH, HIGH}, {-w * LOW, LOW}};
            for (int[] each : at) {
                if (isWithin(each[0], 0, w - 1) && isWithin(each[1], 0, h - 1)) {
                    continue;
                }
                String what = w + " by " + h + " (" + each[0] + ", " + each[1] + ") ";
                GuardPacks x = maker.make();
                due(what + "cell", x.cell(each[0], each[1]), OUTSIDE);
                due(what + "run 0", x.run(each[0], each[1], 0), OUTSIDE);
                due(what + "run 1", x.run(each[0], each[1], 1), OUTSIDE);
                due(what + "sees", x.sees(each[0], each[1]), OUTSIDE);
                due(what + "guard", x.guard(each[0], each[1]), OUTSIDE);
                due(what + "wall", x.wall(each[0], each[1], false), OUTSIDE);
                due(what + "leave", x.leave(each[0], each[1]), OUTSIDE);
                sameAsWithout(what, maker, x);
            }
        }
    }

    // ---- promises 7 and 8: the direction

    /** A DIRECTION is 0 or 1. */
    private static void directions() {
        GuardPacks x = hallOf("...", ".#.");
        int[] all = {LOW, LOW + 1, -2, -1, 0, 1, 2, 3, 255, 256, 257, 65536, HIGH - 1, HIGH};
        for (int direction : all) {
            String what = "direction " + direction + " ";
            due(what + "runs", x.runs(direction), direction == 0 || direction == 1 ? 3 : OUTSIDE);
            due(what + "run", x.run(2, 1, direction), direction == 0 || direction == 1 ? 2 : OUTSIDE);
            due(what + "run of a shut one", x.run(1, 1, direction), direction == 0 || direction == 1 ? NONE : OUTSIDE);
            due(what + "run outside", x.run(3, 1, direction), OUTSIDE);
        }
    }

    // ---- "Calls answer, the first of these that fits"

    private static void outsideIsAheadOfTheRestInHalls() {
        // The bound is the hall's that is, not of the one that was, which had guards and walls there.
        GuardPacks x = hallOf("...G", "...#", "G#.G");
        due("a smaller hall", x.hall(3, 2), 6);
        int[][] at = {{3, 0}, {3, 1}, {0, 2}, {1, 2}, {3, 2}};
        for (int[] each : at) {
            String what = "first that fits (" + each[0] + ", " + each[1] + ") ";
            due(what + "wall", x.wall(each[0], each[1], true), OUTSIDE);
            due(what + "guard", x.guard(each[0], each[1]), OUTSIDE);
            due(what + "leave", x.leave(each[0], each[1]), OUTSIDE);
            due(what + "run", x.run(each[0], each[1], 0), OUTSIDE);
        }
        due("first that fits, shut and no direction", hallOf("#").run(0, 0, 2), OUTSIDE);
        due("first that fits, neither cell nor direction", hallOf("#").run(1, 0, -1), OUTSIDE);
    }

    /** "then nothing changes": what can be asked behind a refused call is what could be asked without it. */
    private static void refusedHallCallsChangeNothing() {
        Maker maker = BoundaryTest::hallAndBox;
        for (int bad : new int[] {LOW, -1, 0, 9, HIGH}) {
            refused("hall(" + bad + ", 2)", OUTSIDE, maker, x -> x.hall(bad, 2));
            refused("hall(2, " + bad + ")", OUTSIDE, maker, x -> x.hall(2, bad));
        }
        int[][] outside = {{-1, 0}, {4, 0}, {0, -1}, {0, 3}, {LOW, 0}, {0, LOW}, {HIGH, 0}, {0, HIGH},
            {-4, 1}, {4, -1}};
        for (int[] at : outside) {
            String where = "(" + at[0] + ", " + at[1] + ")";
            refused("wall shut" + where, OUTSIDE, maker, x -> x.wall(at[0], at[1], false));
            refused("wall open" + where, OUTSIDE, maker, x -> x.wall(at[0], at[1], true));
            refused("guard" + where, OUTSIDE, maker, x -> x.guard(at[0], at[1]));
            refused("leave" + where, OUTSIDE, maker, x -> x.leave(at[0], at[1]));
            refused("cell" + where, OUTSIDE, maker, x -> x.cell(at[0], at[1]));
            refused("sees" + where, OUTSIDE, maker, x -> x.sees(at[0], at[1]));
            refused("run" + where, OUTSIDE, maker, x -> x.run(at[0], at[1], 0));
        }
        refused("shut a guard's cell", STATE, maker, x -> x.wall(0, 0, false));
        refused("open a guard's cell", STATE, maker, x -> x.wall(3, 1, true));
        refused("guard where it is shut", STATE, maker, x -> x.guard(2, 0));
        refused("guard where one is", STATE, maker, x -> x.guard(3, 1));
        refused("leave where none is", STATE, maker, x -> x.leave(1, 0));
        refused("leave where it is shut", STATE, maker, x -> x.leave(1, 2));
        refused("runs(2)", OUTSIDE, maker, x -> x.runs(2));
        refused("run of direction -1", OUTSIDE, maker, x -> x.run(0, 0, -1));
    }

    /** Calls that only ask, and a wall that was as it is to be, are no changes. */
    private static void asksChangeNothing() {
        Maker maker = BoundaryTest::hallAndBox;
        refused("shut what is shut", 0, maker, x -> x.wall(2, 0, false));
        refused("open what is open", 0, maker, x -> x.wall(1, 0, true));
        refused("cell", 3, maker, x -> x.cell(0, 0));
        refused("runs", 6, maker, x -> x.runs(0));
        refused("run", NONE, maker, x -> x.run(2, 0, 1));
        refused("sees", 4, maker, x -> x.sees(0, 0));
        refused("seen", 7, maker, x -> x.seen());
        refused("missed", 5, maker, x -> x.missed(0));
        refused("more", 2, maker, x -> x.more());
        refused("peace", 4, maker, x -> x.peace());
        refused("tried", 19, maker, x -> x.tried());
        refused("place", 3, maker, x -> x.place(1, 0));
        refused("left", 6, maker, x -> x.left());
    }

    // ---- promises 7 to 9: "as many as there are between SHUT ones or the edges"

    /** No RUN goes on over an edge into the next row or column. */
    private static void runsUpToTheEdges() {
        for (int w = 1; w <= 8; w++) {
            for (int h = 1; h <= 8; h++) {
                GuardPacks x = new GuardPacks();
                String what = "open " + w + " by " + h + " ";
                due(what + "hall", x.hall(w, h), w * h);
                due(what + "rows", x.runs(0), h);
                due(what + "columns", x.runs(1), w);
                for (int v = 0; v < h; v++) {
                    for (int u = 0; u < w; u++) {
                        due(what + "run 0", x.run(u, v, 0), v);
                        due(what + "run 1", x.run(u, v, 1), u);
                        due(what + "sees", x.sees(u, v), w + h - 1);
                    }
                }
                due(what + "guard in the last cell", x.guard(w - 1, h - 1), 1);
                due(what + "seen", x.seen(), w + h - 1);
            }
        }
    }

    /** One SHUT CELL, in each place in turn: in corners, at edges, within. */
    private static void runsUpToAShutCell() {
        int[][] sizes = {{1, 1}, {8, 1}, {1, 8}, {2, 2}, {5, 3}, {3, 6}, {8, 8}};
        for (int[] size : sizes) {
            for (int cell = 0; cell < size[0] * size[1]; cell++) {
                oneShut(size[0], size[1], cell % size[0], cell / size[0]);
            }
        }
    }

    private static void oneShut(int w, int h, int wallX, int wallY) {
        GuardPacks x = new GuardPacks();
        due("hall", x.hall(w, h), w * h);
        due("wall", x.wall(wallX, wallY, false), 1);
        String what = w + " by " + h + " shut at (" + wallX + ", " + wallY + ") ";
        int leftPart = wallX > 0 ? 1 : 0;
        int rightPart = wallX < w - 1 ? 1 : 0;
        int upperPart = wallY > 0 ? 1 : 0;
        int lowerPart = wallY < h - 1 ? 1 : 0;
        due(what + "rows", x.runs(0), h - 1 + leftPart + rightPart);
        due(what + "columns", x.runs(1), w - 1 + upperPart + lowerPart);
        for (int v = 0; v < h; v++) {
            for (int u = 0; u < w; u++) {
                String at = what + "at (" + u + ", " + v + ") ";
                if (u == wallX && v == wallY) {
                    due(at + "run 0", x.run(u, v, 0), NONE);
                    due(at + "run 1", x.run(u, v, 1), NONE);
                    due(at + "sees", x.sees(u, v), 0);
                    continue;
                }
                int row = v < wallY ? v : v > wallY ? v - 1 + leftPart + rightPart : u < wallX ? v : v + leftPart;
                // Below the wall a column's run has the greatest of all least cells.
                int column = u == wallX && v > wallY ? w - 1 + upperPart
                        : u > wallX && upperPart == 0 ? u - 1 : u;
                int inRow = v != wallY ? w : u < wallX ? wallX : w - 1 - wallX;
                int inColumn = u != wallX ? h : v < wallY ? wallY : h - 1 - wallY;
                due(at + "run 0", x.run(u, v, 0), row);
                due(at + "run 1", x.run(u, v, 1), column);
                due(at + "sees", x.sees(u, v), inRow + inColumn - 1);
            }
        }
    }

    /** RUNS of one CELL between two SHUT ones, and of all but the outermost. */
    private static void runsBetweenShutCells() {
        for (boolean turn : new boolean[] {false, true}) {
            String[] rows = {"#......#", ".#.#.#.#", "##.##..#"};
            GuardPacks x = hallOf(turn ? turned(rows) : rows);
            int along = turn ? 1 : 0;
            int[][] sight = {{0, 6, 8, 6, 7, 6, 8, 0}, {1, 0, 3, 0, 2, 0, 3, 0}, {0, 0, 3, 0, 0, 2, 4, 0}};
            // In turned halls the runs get other numbers, so only their count and cells are held.
            due("between, along", x.runs(along), 7);
            due("between, across", x.runs(1 - along), 8);
            for (int v = 0; v < 3; v++) {
                for (int u = 0; u < 8; u++) {
                    int got = turn ? x.sees(v, u) : x.sees(u, v);
                    due("between, sees (" + u + ", " + v + ")", got, sight[v][u]);
                }
            }
        }
    }

    // ---- a SHUT cell, a hall all SHUT, SEEN or guarded

    /** Promises 3 to 6, 8 and 9. */
    private static void aShutCell() {
        GuardPacks x = hallOf("...", ".#.", "...");
        due("shut, guard beside", x.guard(1, 0), 1);
        due("shut, guard at its other side", x.guard(0, 1), 2);
        due("shut, cell", x.cell(1, 1), 0);
        due("shut, run 0", x.run(1, 1, 0), NONE);
        due("shut, run 1", x.run(1, 1, 1), NONE);
        due("shut, sees", x.sees(1, 1), 0);
        due("shut, guard", x.guard(1, 1), STATE);
        due("shut, leave", x.leave(1, 1), STATE);
        due("shut, seen is not it nor behind it", x.seen(), 5);
        due("shut, behind it in the row", x.cell(2, 1), 1);
        due("shut, behind it in the column", x.cell(1, 2), 1);
        due("shut, again", x.wall(1, 1, false), 0);
        due("shut, opened", x.wall(1, 1, true), 1);
        due("shut, opened, cell", x.cell(1, 1), 2);
        due("shut, opened, sees", x.sees(1, 1), 5);
        due("shut, opened, seen", x.seen(), 8);
        due("shut, opened, guard", x.guard(1, 1), 3);
    }

    private static GuardPacks allShutOf(int w, int h) {
        GuardPacks x = new GuardPacks();
        due("hall", x.hall(w, h), w * h);
        for (int cell = 0; cell < w * h; cell++) {
            due("wall", x.wall(cell % w, cell / w, false), 1);
        }
        return x;
    }

    /** Promises 7 to 13 in a HALL whose CELLS are all SHUT, of every size. */
    private static void allShut() {
        for (int w = 1; w <= 8; w++) {
            for (int h = 1; h <= 8; h++) {
                GuardPacks x = allShutOf(w, h);
                String what = "all shut " + w + " by " + h + " ";
                due(what + "rows", x.runs(0), 0);
                due(what + "columns", x.runs(1), 0);
                due(what + "direction", x.runs(2), OUTSIDE);
                due(what + "seen", x.seen(), 0);
                due(what + "missed(0)", x.missed(0), NONE);
                due(what + "missed(-1)", x.missed(-1), NONE);
                due(what + "missed(1)", x.missed(1), NONE);
                due(what + "more", x.more(), 0);
                due(what + "peace", x.peace(), 0);
                for (int cell = 0; cell < w * h; cell++) {
                    due(what + "cell", x.cell(cell % w, cell / w), 0);
                    due(what + "run 0", x.run(cell % w, cell / w, 0), NONE);
                    due(what + "run 1", x.run(cell % w, cell / w, 1), NONE);
                    due(what + "sees", x.sees(cell % w, cell / w), 0);
                    due(what + "guard", x.guard(cell % w, cell / w), STATE);
                }
            }
        }
    }

    private static void allShutButOne() {
        int[][] sizes = {{1, 1}, {8, 1}, {1, 8}, {8, 8}, {3, 5}};
        for (int[] size : sizes) {
            for (int cell = 0; cell < size[0] * size[1]; cell++) {
                int u = cell % size[0];
                int v = cell / size[0];
                GuardPacks x = allShutOf(size[0], size[1]);
                String what = "all shut but " + cell + " ";
                due(what + "open", x.wall(u, v, true), 1);
                due(what + "rows", x.runs(0), 1);
                due(what + "columns", x.runs(1), 1);
                due(what + "run 0", x.run(u, v, 0), 0);
                due(what + "run 1", x.run(u, v, 1), 0);
                due(what + "sees", x.sees(u, v), 1);
                due(what + "missed", x.missed(0), cell);
                due(what + "missed behind", x.missed(1), NONE);
                due(what + "more", x.more(), 1);
                due(what + "peace", x.peace(), 1);
                due(what + "guard", x.guard(u, v), 1);
                due(what + "seen", x.seen(), 1);
                due(what + "more then", x.more(), 0);
                due(what + "peace then", x.peace(), 1);
            }
        }
    }

    /** Promises 10 to 13 in a HALL whose CELLS are all SEEN: by rows, or by columns alone. */
    private static void allSeen() {
        for (int w = 1; w <= 8; w++) {
            for (int h = 1; h <= 8; h++) {
                for (boolean byRows : new boolean[] {false, true}) {
                    GuardPacks x = new GuardPacks();
                    String what = "all seen " + w + " by " + h + " ";
                    due(what + "hall", x.hall(w, h), w * h);
                    for (int i = 0; i < (byRows ? h : w); i++) {
                        due(what + "guard", byRows ? x.guard(w - 1, i) : x.guard(i, h - 1), i + 1);
                    }
                    due(what + "seen", x.seen(), w * h);
                    due(what + "missed(0)", x.missed(0), NONE);
                    due(what + "missed(-1)", x.missed(-1), NONE);
                    due(what + "more", x.more(), 0);
                    due(what + "peace", x.peace(), Math.min(w, h));
                    due(what + "a corner", x.cell(0, 0), (byRows ? w : h) == 1 ? 3 : 2);
                }
            }
        }
    }

    private static void allSeenButOneRow() {
        int[][] sizes = {{1, 1}, {2, 1}, {1, 5}, {8, 8}, {4, 6}, {7, 3}};
        for (int[] size : sizes) {
            int w = size[0];
            int h = size[1];
            for (int missing = 0; missing < h; missing++) {
                GuardPacks x = new GuardPacks();
                String what = w + " by " + h + " but row " + missing + " ";
                due(what + "hall", x.hall(w, h), w * h);
                for (int v = 0; v < h; v++) {
                    if (v != missing) {
                        x.guard(0, v);
                    }
                }
                // With other guards there, the first cell of the row is seen along its column.
                int first = h > 1 ? 1 : 0;
                due(what + "seen", x.seen(), w * h - w + first);
                for (int i = 0; i <= w - first; i++) {
                    due(what + "missed(" + i + ")", x.missed(i), i < w - first ? missing * w + first + i : NONE);
                }
                due(what + "more", x.more(), w > first ? 1 : 0);
            }
        }
    }

    /** "one in a CELL at most": as many as there are CELLS, and none more; and down to none. */
    private static void allGuarded() {
        int[][] sizes = {{1, 1}, {8, 1}, {1, 8}, {3, 4}, {8, 8}};
        for (int[] size : sizes) {
            GuardPacks x = new GuardPacks();
            int w = size[0];
            int cells = w * size[1];
            due("hall", x.hall(w, size[1]), cells);
            for (int cell = 0; cell < cells; cell++) {
                due("guarded, guard", x.guard(cell % w, cell / w), cell + 1);
            }
            for (int cell = 0; cell < cells; cell++) {
                due("guarded, one more", x.guard(cell % w, cell / w), STATE);
            }
            due("guarded, seen", x.seen(), cells);
            due("guarded, missed", x.missed(0), NONE);
            due("guarded, more", x.more(), 0);
            due("guarded, peace", x.peace(), Math.min(w, size[1]));
            for (int cell = 0; cell < cells; cell++) {
                due("guarded, cell", x.cell(cell % w, cell / w), 3);
                due("guarded, leave", x.leave(cell % w, cell / w), cells - 1 - cell);
            }
            due("guarded, none is left", x.leave(0, 0), STATE);
            due("guarded, seen then", x.seen(), 0);
            due("guarded, one comes again", x.guard(0, 0), 1);
        }
    }

    // ---- promise 11

    /** "The number of the i-th CELL (from 0 on) that is OPEN and not SEEN; NONE." */
    private static void missedBelowAndAbove() {
        GuardPacks x = hallOf("#..#", "G...", "#..#", "...#");
        int[] missed = {1, 2, 9, 10, 12, 13, 14};
        for (int i = 0; i < missed.length; i++) {
            // The guard sees down its own column up to the wall alone.
            due("missed(" + i + ")", x.missed(i), missed[i]);
        }
        int[] none = {LOW, LOW + 1, -16, -2, -1, 7, 8, 15, 16, 63, 64, 65536, HIGH - 1, HIGH};
        for (int i : none) {
            due("missed(" + i + ")", x.missed(i), NONE);
        }
    }

    // ---- promise 12: "it is told if there are 12 RUNS at most of one DIRECTION or the other; else it is WIDE"

    private static void moreIs(int want, int rowRuns, int columnRuns, String... rows) {
        GuardPacks x = hallOf(rows);
        due("more, rows", x.runs(0), rowRuns);
        due("more, columns", x.runs(1), columnRuns);
        due("more with " + rowRuns + " and " + columnRuns, x.more(), want);
        GuardPacks y = hallOf(turned(rows));
        due("more turned, rows", y.runs(0), columnRuns);
        due("more turned, columns", y.runs(1), rowRuns);
        due("more turned with " + columnRuns + " and " + rowRuns, y.more(), want);
    }

    private static void moreAtTwelveRunsOfBoth() {
        moreIs(12, 12, 12, ".#.#.#.#", "#.#.#.#.", ".#.#.#.#");
        moreIs(11, 11, 11, ".#.#.#.#", "#.#.#.#.", ".#.#.###");
    }

    /** 13 RUNS of the one DIRECTION, 12 of the other: told. */
    private static void moreAtThirteenRunsOfRows() {
        moreIs(12, 13, 12, ".#.#.#.#", "#.#.#.#.", ".#.#.###", "########", "#.######", "#.######");
        moreIs(11, 14, 11, ".#.#.#.#", "#.#.#.#.", ".#.#####", "########", "#.######", "#.######",
                "#.######", "#.######");
    }

    private static void moreAtThirteenRunsOfColumns() {
        moreIs(12, 12, 13, ".#.#.#.#", "#.#.#.#.", ".#.#.###", "########", "#####..#");
        moreIs(12, 12, 19, ".#.#.#.#", "#.#.#.#.", ".#.#.###", "########", "........");
    }

    private static void moreAtThirteenRunsOfBoth() {
        moreIs(WIDE, 13, 13, ".#.#.#.#", "#.#.#.#.", ".#.#.#.#", "#.######");
        moreIs(WIDE, 13, 14, ".#.#.#.#", "#.#.#.#.", ".#.#.#.#", "########", "..######");
        moreIs(WIDE, 14, 13, ".#.#.#.#", "#.#.#.#.", ".#.#.#.#", "########", "#######.", "#######.");
        moreIs(WIDE, 32, 32, BOARD);
        moreIs(WIDE, 13, 13, "G#G#G#G#", "#G#G#G#G", "G#G#G#G#", "#G######");
        GuardPacks x = hallOf(".#.#.#.#", "#.#.#.#.", ".#.#.#.#", "#.######");
        due("wide", x.more(), WIDE);
        due("wide, but peace is told", x.peace(), 13);
        due("shut one", x.wall(0, 0, false), 1);
        due("told then", x.more(), 12);
        due("open it", x.wall(0, 0, true), 1);
        due("wide again", x.more(), WIDE);
        due("join two rows' runs", x.wall(1, 0, true), 1);
        due("12 rows", x.runs(0), 12);
        due("told by rows", x.more(), 11);
    }

    private static void moreWithManyRunsOfOneDirection() {
        moreIs(4, 32, 4, ".#.#.#.#", ".#.#.#.#", ".#.#.#.#", ".#.#.#.#",
                ".#.#.#.#", ".#.#.#.#", ".#.#.#.#", ".#.#.#.#");
        moreIs(8, 8, 8, "........", "........", "........", "........", "........", "........", "........", "........");
        moreIs(12, 12, 24, "..#..#..", "########", "..#..#..", "########", "..#..#..", "########", "..#..#..");
        moreIs(WIDE, 13, 25, "..#..#..", "########", "..#..#..", "########", "..#..#..", "########",
                "..#..#..", "##.#####");
    }

    /** GUARDS don't change how many RUNS there are, but how many have to come. */
    private static void moreWithGuardsAtTwelveRuns() {
        moreIs(11, 12, 12, ".#.#.#.#", "#.#G#.#.", ".#.#.#.#");
        moreIs(0, 12, 12, "G#G#G#G#", "#G#G#G#G", "G#G#G#G#");
        moreIs(1, 12, 12, "G#G#G#G#", "#G#G#G#G", "G#G#G#.#");
        moreIs(1, 12, 19, "G#G#G#G#", "#G#G#G#G", "G#G#G###", "########", "........");
        moreIs(0, 12, 19, "G#G#G#G#", "#G#G#G#G", "G#G#G###", "########", "...G....");
    }

    // ---- promise 13

    private static void peaceAtItsEdges() {
        due("peace of none", hallOf("#").peace(), 0);
        due("peace of one", hallOf(".").peace(), 1);
        due("peace of one with a guard", hallOf("G").peace(), 1);
        due("peace of a row", hallOf("........").peace(), 1);
        due("peace of a parted row", hallOf(".#.#.#.#").peace(), 4);
        due("peace of a column", hallOf(turned("........")).peace(), 1);
        due("peace of a parted column", hallOf(turned(".#.#.#.#")).peace(), 4);
        due("peace of a board", hallOf(BOARD).peace(), 32);
        String[] guarded = BOARD.clone();
        for (int i = 0; i < guarded.length; i++) {
            guarded[i] = guarded[i].replace('.', 'G');
        }
        due("peace of a board of guards", hallOf(guarded).peace(), 32);
    }

    // ---- promise 14

    /** "A BOX has A by B cells (1 to 12 each)": each of them; A is along x, B along y. */
    private static void boxSizesInBounds() {
        for (int a = 1; a <= 12; a++) {
            for (int b = 1; b <= 12; b++) {
                String what = "box(" + a + ", " + b + ") ";
                GuardPacks x = boxOf(a, b);
                due(what + "left", x.left(), a * b);
                int side = Math.min(a, b);
                due(what + "the greatest square", x.square(side), 0);
                due(what + "lies", x.pack(1), 1);
                due(what + "one more", x.square(1), 1);
                due(what + "lies if there is room", x.pack(ALL_STEPS), a == b ? 0 : 1);
                // Right of the first one if the box is wide, below it if it is high.
                places(what, x, a == b ? NONE : 0, a == b ? NONE : 0);
                due(what + "x of it", x.place(1, 0), a == b ? NONE : a > b ? side : 0);
                due(what + "y of it", x.place(1, 1), a == b ? NONE : a > b ? 0 : side);
            }
        }
    }

    private static void boxSizesOutOfBounds() {
        GuardPacks x = new GuardPacks();
        for (int a : edges(1, 12)) {
            for (int b : edges(1, 12)) {
                int want = isWithin(a, 1, 12) && isWithin(b, 1, 12) ? a * b : OUTSIDE;
                due("box(" + a + ", " + b + ")", x.box(a, b), want);
            }
        }
        int[][] products = {{-1, -1}, {-3, -4}, {16, 9}, {9, 16}, {144, 1}, {1, 144}, {65536, 65536}, {65537, 65536},
            {1 << 30, 4}, {4, 1 << 30}, {LOW, LOW}, {HIGH, HIGH}, {0, 0}, {13, 12}, {12, 13}};
        for (int[] size : products) {
            due("box(" + size[0] + ", " + size[1] + ")", x.box(size[0], size[1]), OUTSIDE);
        }
    }

    /** "Another BOX, without SQUARES". */
    private static void boxOfAnotherSizeForgetsTheOldOne() {
        int[][] sizes = {{12, 12}, {1, 1}, {12, 1}, {1, 12}, {4, 4}};
        for (int[] size : sizes) {
            GuardPacks x = boxOf(4, 4, 1, 1, 1, 1, 1, 1, 1, 1);
            due("box anew, pack", x.pack(ALL_STEPS), 1);
            due("box anew, room", x.square(1), ROOM);
            due("box anew", x.box(size[0], size[1]), size[0] * size[1]);
            due("box anew, left", x.left(), size[0] * size[1]);
            noPlaces("box anew", x);
            due("box anew, drop", x.drop(), STATE);
            due("box anew, pack of none", x.pack(0), 1);
            for (int i = 0; i < 8; i++) {
                due("box anew, square", x.square(12), i);
            }
            due("box anew, room again", x.square(1), ROOM);
        }
    }

    // ---- promise 15

    /** "SQUARES (8 at most) have sides of 1 to 12": in every box, whether they would lie in it or not. */
    private static void sidesAtTheEdges() {
        int[][] sizes = {{1, 1}, {12, 12}, {12, 1}, {3, 7}};
        for (int[] size : sizes) {
            GuardPacks x = boxOf(size[0], size[1]);
            int number = 0;
            for (int side : edges(1, 12)) {
                boolean in = isWithin(side, 1, 12);
                due("square(" + side + ")", x.square(side), in ? number++ : OUTSIDE);
            }
            due("sides, left", x.left(), size[0] * size[1] - 1 - 144);
            for (int side : new int[] {-12, -1, 256, 257, 65536, 65537, 1 << 16 | 12}) {
                due("square(" + side + ")", x.square(side), OUTSIDE);
            }
            for (int side = 1; side <= 12; side++) {
                due("sides, drop", x.drop(), 1);
                due("square(" + side + ")", x.square(side), 1);
                due("sides, left with " + side, x.left(), size[0] * size[1] - 1 - side * side);
            }
        }
    }

    private static void eightSquaresAtMost() {
        GuardPacks x = boxOf(12, 12);
        for (int i = 0; i < 8; i++) {
            due("the square " + i, x.square(1), i);
        }
        due("the ninth", x.square(1), ROOM);
        due("the ninth again", x.square(12), ROOM);
        due("the eighth goes", x.drop(), 7);
        due("the eighth comes", x.square(2), 7);
        due("the ninth is too many still", x.square(1), ROOM);
        due("eight lie", x.pack(ALL_STEPS), 1);
        due("where the eighth lies", x.place(7, 0), 7);
        due("the ninth is too many when they lie", x.square(1), ROOM);
    }

    private static void outsideIsAheadOfRoom() {
        GuardPacks x = boxOf(5, 5, 1, 1, 1, 1, 1, 1, 1, 1);
        for (int side : edges(1, 12)) {
            due("full, square(" + side + ")", x.square(side), isWithin(side, 1, 12) ? ROOM : OUTSIDE);
        }
    }

    // ---- promise 16

    /** "STATE: there is none." */
    private static void dropOfNone() {
        GuardPacks x = boxOf(6, 6, 1, 2, 3, 1, 2, 3, 1, 2);
        int[] left = {7, 8, 17, 21, 22, 31, 35, 36};
        for (int i = 0; i < 8; i++) {
            due("drop", x.drop(), 7 - i);
            due("left", x.left(), left[i]);
        }
        due("drop of none", x.drop(), STATE);
        due("drop of none again", x.drop(), STATE);
        due("left of none", x.left(), 36);
        due("the first comes", x.square(6), 0);
        due("the first goes", x.drop(), 0);
        due("none again", x.drop(), STATE);
    }

    // ---- "then nothing changes"

    private static void refusedBoxCallsChangeNothing() {
        Maker full = () -> {
            GuardPacks x = boxOf(5, 4, 2, 2, 1, 1, 1, 1, 1, 1);
            x.pack(ALL_STEPS);
            return x;
        };
        Maker empty = () -> {
            GuardPacks x = boxOf(5, 4, 3);
            x.pack(ALL_STEPS);
            x.drop();
            return x;
        };
        Maker fresh = () -> boxOf(5, 4, 3, 2);
        Maker ended = () -> {
            GuardPacks x = boxOf(5, 4, 3, 2);
            x.pack(3);
            return x;
        };
        Maker cannot = () -> {
            GuardPacks x = boxOf(5, 4, 3, 3);
            x.pack(ALL_STEPS);
            return x;
        };
        Maker[] makers = {BoundaryTest::hallAndBox, GuardPacks::new, full, empty, fresh, ended, cannot};
        for (Maker maker : makers) {
            for (int bad : new int[] {LOW, -1, 0, 13, HIGH}) {
                refused("box(" + bad + ", 2)", OUTSIDE, maker, x -> x.box(bad, 2));
                refused("box(2, " + bad + ")", OUTSIDE, maker, x -> x.box(2, bad));
                refused("square(" + bad + ")", OUTSIDE, maker, x -> x.square(bad));
            }
            for (int bad : new int[] {LOW, -1, ALL_STEPS + 1, HIGH}) {
                refused("pack(" + bad + ")", OUTSIDE, maker, x -> x.pack(bad));
            }
            refused("place(0, 2)", OUTSIDE, maker, x -> x.place(0, 2));
            refused("place(0, -1)", OUTSIDE, maker, x -> x.place(0, -1));
        }
        refused("square of side 1 when full", ROOM, full, x -> x.square(1));
        refused("square of side 12 when full", ROOM, full, x -> x.square(12));
        refused("drop when empty", STATE, empty, x -> x.drop());
        refused("drop when new", STATE, GuardPacks::new, x -> x.drop());
    }

    // ---- promise 17

    /** STEPS "(0 to 100000)". */
    private static void stepsAtTheEdges() {
        GuardPacks x = boxOf(2, 1, 1, 1);
        for (int steps : edges(0, ALL_STEPS)) {
            int want = !isWithin(steps, 0, ALL_STEPS) ? OUTSIDE : steps == 0 ? 2 : 1;
            due("pack(" + steps + ")", x.pack(steps), want);
        }
        GuardPacks empty = new GuardPacks();
        GuardPacks cannot = boxOf(1, 1, 2);
        for (int steps : edges(0, ALL_STEPS)) {
            boolean in = isWithin(steps, 0, ALL_STEPS);
            due("pack(" + steps + ") of none", empty.pack(steps), in ? 1 : OUTSIDE);
            due("pack(" + steps + ") of one that can't", cannot.pack(steps), in ? 0 : OUTSIDE);
        }
    }

    /** For every number of STEPS up to those that are needed: what it answers and how many are TRIED. */
    private static void packs(int needed, int answer, int a, int b, int... sides) {
        GuardPacks x = boxOf(a, b, sides);
        int least = Math.max(0, needed - 100);
        for (int steps = least; steps <= needed + 1 && steps <= ALL_STEPS; steps++) {
            String what = "box " + a + " by " + b + " pack(" + steps + ") ";
            due(what, x.pack(steps), steps < needed ? 2 : answer);
            due(what + "tried", x.tried(), Math.min(steps, needed));
            if (steps < needed || answer != 1) {
                due(what + "place", x.place(0, 0), NONE);
            }
        }
        due("pack with all steps", x.pack(ALL_STEPS), answer);
        due("tried with all steps", x.tried(), needed);
    }

    private static void packOfNoSquares() {
        packs(0, 1, 1, 1);
        packs(0, 1, 12, 12);
        GuardPacks x = boxOf(3, 3, 3);
        due("one", x.pack(1), 1);
        due("tried of one", x.tried(), 1);
        due("one goes", x.drop(), 0);
        due("none", x.pack(0), 1);
        due("tried of none", x.tried(), 0);
        noPlaces("none", x);
    }

    /** There is no place to be TRIED for a SQUARE whose side is above the BOX's. */
    private static void packOfASideAboveTheBox() {
        packs(0, 0, 3, 3, 4);
        packs(0, 0, 2, 5, 3);
        packs(0, 0, 5, 2, 3);
        packs(0, 0, 12, 11, 12);
        packs(0, 0, 11, 12, 12);
        packs(0, 0, 1, 1, 12);
        packs(0, 0, 3, 3, 4, 1);
        packs(1, 0, 3, 3, 3, 4);
        // Each place of the first is tried, since nothing looks ahead at the second.
        packs(9, 0, 3, 3, 1, 4);
        packs(4, 0, 3, 3, 2, 12);
        packs(5, 0, 1, 5, 1, 2);
        packs(5, 0, 5, 1, 1, 2);
    }

    /** "each is TRIED at places of the BOX, by y, then x, its upper left cell there, from the first place on". */
    private static void placesByYThenX() {
        GuardPacks x = boxOf(3, 2, 2, 1, 1);
        due("by y, then x", x.pack(ALL_STEPS), 1);
        places("by y, then x", x, 0, 0, 2, 0, 2, 1);
        due("by y, then x, tried", x.tried(), 1 + 3 + 6);
        GuardPacks high = boxOf(2, 3, 2, 1, 1);
        due("high", high.pack(ALL_STEPS), 1);
        places("high", high, 0, 0, 0, 2, 1, 2);
        due("high, tried", high.tried(), 1 + 5 + 6);
        // The last one goes back to what the third has left open.
        GuardPacks gap = boxOf(4, 4, 2, 1, 2, 1);
        due("gap", gap.pack(ALL_STEPS), 1);
        places("gap", gap, 0, 0, 2, 0, 2, 1, 3, 0);
        due("gap, tried", gap.tried(), 1 + 3 + 6 + 4);
    }

    /** "up to the last one at which it would lie in the BOX". */
    private static void placesUpToTheLastOne() {
        packs(36, 1, 8, 1, 1, 1, 1, 1, 1, 1, 1, 1);
        packs(36, 1, 1, 8, 1, 1, 1, 1, 1, 1, 1, 1);
        packs(36, 1, 2, 4, 1, 1, 1, 1, 1, 1, 1, 1);
        GuardPacks x = boxOf(2, 4, 1, 1, 1, 1, 1, 1, 1, 1);
        due("eight", x.pack(ALL_STEPS), 1);
        places("eight", x, 0, 0, 1, 0, 0, 1, 1, 1, 0, 2, 1, 2, 0, 3, 1, 3);
        packs(1, 1, 12, 12, 12);
        packs(1, 1, 1, 1, 1);
        GuardPacks corner = boxOf(12, 12, 6, 6, 6, 6);
        due("corner", corner.pack(ALL_STEPS), 1);
        places("corner", corner, 0, 0, 6, 0, 0, 6, 6, 6);
        // Places of a side 6 in a row of 12: 7.
        due("corner, tried", corner.tried(), 1 + 7 + (6 * 7 + 1) + 49);
        GuardPacks last = boxOf(12, 12, 11, 1);
        due("last in the row", last.pack(ALL_STEPS), 1);
        places("last in the row", last, 0, 0, 11, 0);
        due("last in the row, tried", last.tried(), 1 + 12);
    }

    /** "at the first at which it lies on no SQUARE laid ahead of it": a side in common is fine, one cell is not. */
    private static void placesBesideAndOnSquares() {
        packs(4, 1, 4, 4, 2, 2);
        packs(4, 1, 4, 2, 2, 2);
        packs(4, 1, 2, 4, 2, 2);
        // Two of side 3 share the middle cell of a box of 5 by 5 at least, at each of 9 times 9 places.
        packs(9 + 9 * 9, 0, 5, 5, 3, 3);
        packs(1 + 4, 1, 6, 5, 3, 3);
        packs(1 + 3 * 3 + 1, 1, 5, 6, 3, 3);
    }

    /** "the one ahead of it is TRIED on, from the place behind its own." */
    private static void theOneAheadIsTriedOn() {
        GuardPacks x = boxOf(4, 3, 1, 1, 1, 3);
        due("tried on", x.pack(ALL_STEPS), 1);
        places("tried on", x, 0, 0, 0, 1, 0, 2, 1, 0);
        due("tried on, tried", x.tried(), triedOfOneOneOneThree());
        GuardPacks two = boxOf(3, 4, 1, 1, 3);
        due("tried on by one", two.pack(ALL_STEPS), 1);
        places("tried on by one", two, 0, 0, 1, 0, 0, 1);
        GuardPacks wide = boxOf(4, 3, 1, 1, 3);
        due("tried on to the next row", wide.pack(ALL_STEPS), 1);
        places("tried on to the next row", wide, 0, 0, 0, 1, 1, 0);
        // First 1; second at (0, 0), then laid at (1, 0), (2, 0), (3, 0) with 2 places of the last for each, then at
        // (0, 1) with the last at its second place.
        due("tried on to the next row, tried", wide.tried(), 1 + 1 + 3 * (1 + 2) + 1 + 2);
    }

    private static int triedOfOneOneOneThree() {
        int first = 1;
        int secondOnTheFirst = 1;
        // The second lies at (1, 0), (2, 0), (3, 0): the third at 10 of its 12 places, the last is tried at its 2.
        int secondInTheFirstRow = 3 * (1 + 12 + 10 * 2);
        // The second lies at (0, 1): the third is tried at 9 places up to (0, 2), and laid at 7 of them.
        int secondInTheSecondRow = 1 + 9 + 7 * 2;
        return first + secondOnTheFirst + secondInTheFirstRow + secondInTheSecondRow;
    }

    /** "they can't be when none is left for the first one." */
    private static void noneIsLeftForTheFirst() {
        packs(2, 0, 1, 1, 1, 1);
        packs(4 + 4, 0, 2, 2, 1, 2);
        packs(1 + 4, 0, 2, 2, 2, 1);
        packs(2 + 2 * 2 + 2 * 2, 0, 2, 1, 1, 1, 1);
        packs(2 + 2 * 2 + 2 * 2, 0, 1, 2, 1, 1, 1);
        packs(3 + 3 * 3 + 6 * 3 + 6 * 3, 0, 3, 1, 1, 1, 1, 1);
        // As many cells as the box has, but two of side 2 don't lie in it.
        due("none left, cells", boxOf(3, 3, 2, 2, 1).left(), 0);
        packs(4 + 4 * 4, 0, 3, 3, 2, 2, 1);
    }

    /** "With STEPS told it ends ahead of the one TRIED place that would be above these." */
    private static void stepsEndAheadOfTheOneAbove() {
        GuardPacks x = boxOf(3, 1, 1, 1, 1);
        int[] answers = {2, 2, 2, 2, 2, 2, 1, 1};
        int[] tried = {0, 1, 2, 3, 4, 5, 6, 6};
        for (int steps = 0; steps < answers.length; steps++) {
            due("steps " + steps, x.pack(steps), answers[steps]);
            due("steps " + steps + " tried", x.tried(), tried[steps]);
            due("steps " + steps + " place", x.place(2, 0), answers[steps] == 1 ? 2 : NONE);
        }
        // With the last step the last square is laid, or the last place of the first is left: no step more is needed.
        due("the last lies with the last step", boxOf(1, 1, 1).pack(1), 1);
        due("none is left behind the last step", boxOf(1, 1, 1, 1).pack(2), 0);
        due("none is left, one step fewer", boxOf(1, 1, 1, 1).pack(1), 2);
        due("no place above no steps", boxOf(1, 1, 2).pack(0), 0);
        due("a place above no steps", boxOf(1, 1, 1).pack(0), 2);
    }

    /** With the greatest STEPS, what needs all of them is told, what needs one more is ended by them. */
    private static void allStepsAreTried() {
        packs(ALL_STEPS, 0, 12, 9, 5, 3, 6, 3, 12);
        packs(ALL_STEPS, 1, 12, 4, 1, 3, 2, 4, 1, 2, 3, 1);
        GuardPacks x = boxOf(5, 5, 3, 2, 2, 1, 1, 3, 4, 3);
        due("one step more is needed", x.pack(ALL_STEPS), 2);
        due("one step more, tried", x.tried(), ALL_STEPS);
        noPlaces("one step more", x);
        due("one step more, again", x.pack(ALL_STEPS), 2);
        due("one step more, tried again", x.tried(), ALL_STEPS);
        GuardPacks far = boxOf(12, 12, 1, 1, 1, 1, 1, 1, 1, 12);
        due("far", far.pack(ALL_STEPS), 2);
        due("far, tried", far.tried(), ALL_STEPS);
        due("far, one fewer", far.pack(ALL_STEPS - 1), 2);
        due("far, one fewer, tried", far.tried(), ALL_STEPS - 1);
    }

    // ---- promise 18

    /** "0 before any". */
    private static void triedBeforeAny() {
        GuardPacks x = new GuardPacks();
        due("before any", x.tried(), 0);
        due("refused", x.pack(-1), OUTSIDE);
        due("before any, one refused", x.tried(), 0);
        due("refused above", x.pack(ALL_STEPS + 1), OUTSIDE);
        due("before any, two refused", x.tried(), 0);
        addBox(x, 3, 3, 2);
        due("before any, with a square", x.tried(), 0);
        due("drop", x.drop(), 0);
        due("before any, without", x.tried(), 0);
    }

    /** "by the latest pack() that was not refused": of all three answers, through box(), square() and drop(). */
    private static void triedOfTheLatestThatWasNotRefused() {
        GuardPacks x = boxOf(4, 4, 2, 2);
        due("packed", x.pack(ALL_STEPS), 1);
        for (int steps : new int[] {LOW, -1, ALL_STEPS + 1, HIGH}) {
            due("refused", x.pack(steps), OUTSIDE);
            due("of the one that was not", x.tried(), 4);
        }
        due("square", x.square(4), 2);
        due("tried since square", x.tried(), 4);
        due("ended", x.pack(5), 2);
        due("tried of the ended", x.tried(), 5);
        due("drop", x.drop(), 1 + 1);
        due("tried since drop", x.tried(), 5);
        due("box", x.box(2, 2), 4);
        due("tried since box", x.tried(), 5);
        due("two that can't", x.square(1) + x.square(2), 1);
        due("can't", x.pack(ALL_STEPS), 0);
        due("tried of what can't", x.tried(), 8);
        due("hall", x.hall(3, 3), 9);
        due("tried since hall", x.tried(), 8);
        due("ended at once", x.pack(0), 2);
        due("tried of that", x.tried(), 0);
    }

    // ---- promise 19: each way to NONE

    private static void placeBeforeAnyPack() {
        noPlaces("new", new GuardPacks());
        noPlaces("squares, no pack", boxOf(4, 4, 2, 2));
        GuardPacks x = boxOf(4, 4, 2, 2);
        due("refused", x.pack(-1), OUTSIDE);
        noPlaces("squares, a refused pack", x);
    }

    private static void placeSinceBox() {
        GuardPacks x = boxOf(4, 4, 2, 2);
        due("pack", x.pack(ALL_STEPS), 1);
        due("box", x.box(4, 4), 16);
        noPlaces("since box", x);
        due("the same squares", x.square(2) + x.square(2), 1);
        noPlaces("since box, with squares", x);
        due("pack again", x.pack(ALL_STEPS), 1);
        places("since box, packed", x, 0, 0, 2, 0);
    }

    private static void placeSinceSquare() {
        GuardPacks x = boxOf(4, 4, 2, 2);
        due("pack", x.pack(ALL_STEPS), 1);
        due("square", x.square(1), 2);
        noPlaces("since square", x);
        due("drop of it", x.drop(), 2);
        noPlaces("since square and drop", x);
        due("pack again", x.pack(ALL_STEPS), 1);
        places("since square, packed", x, 0, 0, 2, 0);
    }

    private static void placeSinceDrop() {
        GuardPacks x = boxOf(4, 4, 2, 2);
        due("pack", x.pack(ALL_STEPS), 1);
        due("drop", x.drop(), 1);
        noPlaces("since drop", x);
        due("pack of one", x.pack(ALL_STEPS), 1);
        places("since drop, packed", x, 0, 0, NONE, NONE);
    }

    private static void placeOfAPackThatDidNotAnswer1() {
        GuardPacks x = boxOf(4, 4, 2, 2);
        due("ended at once", x.pack(0), 2);
        noPlaces("ended at once", x);
        due("ended ahead of the last", x.pack(3), 2);
        noPlaces("ended ahead of the last", x);
        due("packed", x.pack(4), 1);
        places("packed", x, 0, 0, 2, 0, NONE, NONE);
        due("ended behind packed", x.pack(3), 2);
        noPlaces("ended behind packed", x);
        GuardPacks cannot = boxOf(3, 3, 2, 2);
        due("can't", cannot.pack(ALL_STEPS), 0);
        noPlaces("can't", cannot);
    }

    /** "there is no such SQUARE": at the bounds of every number of SQUARES. */
    private static void placeOfNoSuchSquare() {
        for (int count = 0; count <= 8; count++) {
            int[] sides = new int[count];
            java.util.Arrays.fill(sides, 1);
            GuardPacks x = boxOf(8, 2, sides);
            due("pack of " + count, x.pack(ALL_STEPS), 1);
            int[] squares = {LOW, LOW + 1, -8, -1, 0, count - 1, count, 7, 8, 9, 256, 65536, HIGH - 1, HIGH};
            for (int square : squares) {
                boolean is = isWithin(square, 0, count - 1);
                due("place(" + square + ", 0) of " + count, x.place(square, 0), is ? square : NONE);
                due("place(" + square + ", 1) of " + count, x.place(square, 1), is ? 0 : NONE);
            }
        }
    }

    /** "OUTSIDE: the axis", which comes first. */
    private static void placeOfNoSuchAxis() {
        GuardPacks packed = boxOf(2, 1, 1, 1);
        due("pack", packed.pack(ALL_STEPS), 1);
        GuardPacks[] all = {packed, new GuardPacks(), boxOf(2, 1, 1, 1)};
        for (GuardPacks x : all) {
            for (int axis : new int[] {LOW, LOW + 1, -2, -1, 0, 1, 2, 3, 256, 257, 65536, HIGH - 1, HIGH}) {
                boolean in = axis == 0 || axis == 1;
                for (int square : new int[] {LOW, -1, 0, 1, 2, 7, 8, HIGH}) {
                    int there = x != packed || !isWithin(square, 0, 1) ? NONE : axis == 0 ? square : 0;
                    due("place(" + square + ", " + axis + ")", x.place(square, axis), in ? there : OUTSIDE);
                }
            }
        }
    }

    /** A refused box(), square(), drop() or pack() is none since which a pack() is missing. */
    private static void placeBehindRefusedCalls() {
        GuardPacks x = boxOf(8, 2, 1, 1, 1, 1, 1, 1, 1, 2);
        due("pack", x.pack(ALL_STEPS), 1);
        due("refused box", x.box(0, 12), OUTSIDE);
        places("behind a refused box", x, 0, 0, 1, 0, 2, 0, 3, 0, 4, 0, 5, 0);
        due("refused side", x.square(13), OUTSIDE);
        due("refused square", x.square(12), ROOM);
        places("behind a refused square", x, 0, 0, 1, 0, 2, 0, 3, 0, 4, 0, 5, 0);
        due("refused pack", x.pack(ALL_STEPS + 1), OUTSIDE);
        due("refused pack below 0", x.pack(-1), OUTSIDE);
        due("refused hall", x.hall(0, 0), OUTSIDE);
        due("hall", x.hall(2, 2), 4);
        places("behind a refused pack", x, 0, 0, 1, 0, 2, 0, 3, 0, 4, 0, 5, 0);
    }

    // ---- promise 20

    /** "perhaps below 0: they can't". */
    private static void leftAtItsEdges() {
        due("greatest", boxOf(12, 12).left(), 144);
        due("of the least box", boxOf(1, 1).left(), 1);
        due("none", boxOf(12, 12, 12).left(), 0);
        due("none of the least", boxOf(1, 1, 1).left(), 0);
        GuardPacks x = boxOf(1, 1);
        for (int i = 0; i < 8; i++) {
            due("square", x.square(12), i);
            due("ever lower", x.left(), 1 - 144 * (i + 1));
        }
        due("room", x.square(12), ROOM);
        due("least", x.left(), -1151);
        due("below 0: they can't", x.pack(ALL_STEPS), 0);
        due("pack does not change it", x.left(), -1151);
        GuardPacks one = boxOf(2, 2, 1, 1, 1, 1);
        due("0: they can", one.left(), 0);
        due("0: pack", one.pack(ALL_STEPS), 1);
        due("0 behind pack", one.left(), 0);
        due("one more", one.square(1), 4);
        due("one too many", one.left(), -1);
        due("one too many, pack", one.pack(ALL_STEPS), 0);
        due("one too many, dropped", one.drop(), 4);
        due("0 again", one.left(), 0);
        // A side above the box's, though cells would be left.
        GuardPacks narrow = boxOf(12, 1, 2);
        due("narrow", narrow.left(), 8);
        due("narrow, pack", narrow.pack(ALL_STEPS), 0);
    }
}
