/**
 * Guards in a hall of cells who see along rows and columns up to the walls, and squares packed into a box,
 * one place tried behind the other. Every array is made with the object and used again by every call.
 */
public final class GuardPacks {
    public static final int NONE = -1, OUTSIDE = -2, STATE = -3, ROOM = -4, WIDE = -5;

    private static final int HALL_SIDE = 8;
    private static final int CELLS = HALL_SIDE * HALL_SIDE;
    private static final int RUNS_TOLD = 12;
    private static final long EVERY_RUN = -1L;

    private static final int BOX_SIDE = 12;
    private static final int SQUARES = 8;
    private static final int STEPS = 100000;
    // A turn tries a place, lifts a square that a try has laid, or is the last one.
    private static final int TURNS = 2 * STEPS + 2;

    private static final int CANNOT = 0, PACKED = 1, ENDED = 2;

    private final Hall myHall;
    private final Box myBox;

    public GuardPacks() {
        myHall = new Hall();
        myBox = new Box();
    }

    // ---- halls

    public int hall(int w, int h) {
        if (!isWithin(w, 1, HALL_SIDE) || !isWithin(h, 1, HALL_SIDE)) {
            return OUTSIDE;
        }
        myHall.clear(w, h);
        return w * h;
    }

    public int wall(int x, int y, boolean open) {
        if (!myHall.holds(x, y)) {
            return OUTSIDE;
        }
        int cell = myHall.numberOf(x, y);
        if (myHall.guarded[cell]) {
            return STATE;
        }
        return myHall.changeWall(cell, open) ? 1 : 0;
    }

    public int guard(int x, int y) {
        if (!myHall.holds(x, y)) {
            return OUTSIDE;
        }
        int cell = myHall.numberOf(x, y);
        if (!myHall.open[cell] || myHall.guarded[cell]) {
            return STATE;
        }
        return myHall.changeGuard(cell, true);
    }

    public int leave(int x, int y) {
        if (!myHall.holds(x, y)) {
            return OUTSIDE;
        }
        int cell = myHall.numberOf(x, y);
        if (!myHall.guarded[cell]) {
            return STATE;
        }
        return myHall.changeGuard(cell, false);
    }

    public int cell(int x, int y) {
        if (!myHall.holds(x, y)) {
            return OUTSIDE;
        }
        return myHall.kindOf(myHall.numberOf(x, y));
    }

    public int runs(int direction) {
        if (!isWithin(direction, 0, 1)) {
            return OUTSIDE;
        }
        return myHall.along(direction).count;
    }

    public int run(int x, int y, int direction) {
        if (!myHall.holds(x, y) || !isWithin(direction, 0, 1)) {
            return OUTSIDE;
        }
        return myHall.along(direction).of[myHall.numberOf(x, y)];
    }

    public int sees(int x, int y) {
        if (!myHall.holds(x, y)) {
            return OUTSIDE;
        }
        return myHall.sightFrom(myHall.numberOf(x, y));
    }

    public int seen() {
        return myHall.countSeen();
    }

    public int missed(int i) {
        return myHall.findMissed(i);
    }

    public int more() {
        return myHall.leastMore();
    }

    public int peace() {
        return myHall.mostPeaceful();
    }

    // ---- boxes

    public int box(int a, int b) {
        if (!isWithin(a, 1, BOX_SIDE) || !isWithin(b, 1, BOX_SIDE)) {
            return OUTSIDE;
        }
        myBox.clear(a, b);
        return a * b;
    }

    public int square(int side) {
        if (!isWithin(side, 1, BOX_SIDE)) {
            return OUTSIDE;
        }
        if (myBox.count >= SQUARES) {
            return ROOM;
        }
        return myBox.append(side);
    }

    public int drop() {
        if (myBox.count <= 0) {
            return STATE;
        }
        return myBox.removeLast();
    }

    public int pack(int steps) {
        if (!isWithin(steps, 0, STEPS)) {
            return OUTSIDE;
        }
        return myBox.fill(steps);
    }

    public int tried() {
        return myBox.placesTried;
    }

    public int place(int square, int axis) {
        if (!isWithin(axis, 0, 1)) {
            return OUTSIDE;
        }
        if (!myBox.packed || !isWithin(square, 0, myBox.count - 1)) {
            return NONE;
        }
        return axis == 0 ? myBox.atX[square] : myBox.atY[square];
    }

    public int left() {
        return myBox.countLeft();
    }

    private static boolean isWithin(int number, int least, int greatest) {
        return number >= least && number <= greatest;
    }

    /** The runs of one direction. */
    private static final class Runs {
        private int count;
        // How far the number of a cell is from the next one's in its run.
        private int stride;
        // For each cell its run, NONE where it is shut.
        private final int[] of = new int[CELLS];
        // For each run its least cell, its cells and its guards.
        private final int[] least = new int[CELLS];
        private final int[] length = new int[CELLS];
        private final int[] guards = new int[CELLS];

        private void clear(int newStride) {
            count = 0;
            stride = newStride;
        }

        private void takeShut(int cell) {
            of[cell] = NONE;
        }

        /** Cells come by their numbers, so that a new run's number is right as soon as its least cell comes. */
        private void takeOpen(int cell, boolean atEdge) {
            int run = atEdge ? NONE : of[cell - stride];
            if (run == NONE) {
                run = count++;
                least[run] = cell;
                length[run] = 0;
                guards[run] = 0;
            }
            of[cell] = run;
            length[run]++;
        }

        private void addGuards(int cell, int change) {
            int run = of[cell];
            if (run != NONE) {
                guards[run] += change;
            }
        }

        private boolean isWatched(int cell) {
            int run = of[cell];
            return run != NONE && guards[run] > 0;
        }

        private int lengthAt(int cell) {
            int run = of[cell];
            return run == NONE ? 0 : length[run];
        }

        private int cellOf(int run, int i) {
            return least[run] + i * stride;
        }
    }

    /** Cells, walls and guards; the runs are always those of the walls and guards as they stand. */
    private static final class Hall {
        private int width;
        private int height;
        private int guardCount;
        private final boolean[] open = new boolean[CELLS];
        private final boolean[] guarded = new boolean[CELLS];
        private final Runs rows = new Runs();
        private final Runs columns = new Runs();
        private final Pairing pairing = new Pairing();
        private final Watch watch = new Watch(pairing);

        private Hall() {
            clear(1, 1);
        }

        private void clear(int newWidth, int newHeight) {
            width = newWidth;
            height = newHeight;
            guardCount = 0;
            for (int cell = 0; cell < CELLS; cell++) {
                open[cell] = true;
                guarded[cell] = false;
            }
            numberRuns();
        }

        private boolean holds(int x, int y) {
            return isWithin(x, 0, width - 1) && isWithin(y, 0, height - 1);
        }

        private int numberOf(int x, int y) {
            return y * width + x;
        }

        private Runs along(int direction) {
            return direction == 0 ? rows : columns;
        }

        private void numberRuns() {
            rows.clear(1);
            columns.clear(width);
            for (int y = 0; y < height; y++) {
                for (int x = 0; x < width; x++) {
                    numberCell(x, y);
                }
            }
        }

        private void numberCell(int x, int y) {
            int cell = numberOf(x, y);
            if (!open[cell]) {
                rows.takeShut(cell);
                columns.takeShut(cell);
                return;
            }
            rows.takeOpen(cell, x == 0);
            columns.takeOpen(cell, y == 0);
            if (guarded[cell]) {
                rows.addGuards(cell, 1);
                columns.addGuards(cell, 1);
            }
        }

        private boolean changeWall(int cell, boolean opened) {
            if (open[cell] == opened) {
                return false;
            }
            open[cell] = opened;
            numberRuns();
            return true;
        }

        private int changeGuard(int cell, boolean comes) {
            int change = comes ? 1 : -1;
            guarded[cell] = comes;
            rows.addGuards(cell, change);
            columns.addGuards(cell, change);
            guardCount += change;
            return guardCount;
        }

        private boolean isSeen(int cell) {
            return rows.isWatched(cell) || columns.isWatched(cell);
        }

        private int kindOf(int cell) {
            if (!open[cell]) {
                return 0;
            }
            if (guarded[cell]) {
                return 3;
            }
            return isSeen(cell) ? 2 : 1;
        }

        private int sightFrom(int cell) {
            // Its own cell is in both of its runs.
            return open[cell] ? rows.lengthAt(cell) + columns.lengthAt(cell) - 1 : 0;
        }

        private int countSeen() {
            int count = 0;
            for (int cell = 0; cell < width * height; cell++) {
                if (isSeen(cell)) {
                    count++;
                }
            }
            return count;
        }

        private int findMissed(int i) {
            int ahead = 0;
            for (int cell = 0; cell < width * height; cell++) {
                if (open[cell] && !isSeen(cell)) {
                    if (ahead == i) {
                        return cell;
                    }
                    ahead++;
                }
            }
            return NONE;
        }

        private int leastMore() {
            // The work grows with the runs of the near direction alone, so the one with fewer is near.
            boolean rowsAreFewer = rows.count <= columns.count;
            Runs near = rowsAreFewer ? rows : columns;
            Runs far = rowsAreFewer ? columns : rows;
            return near.count > RUNS_TOLD ? WIDE : watch.leastGuards(near, far);
        }

        private int mostPeaceful() {
            return pairing.most(rows, columns, EVERY_RUN, EVERY_RUN);
        }
    }

    /**
     * The most cells, no two in one run, all in chosen runs. A cell ties its run of the near direction to its run
     * of the far one; pairs are grown along the shortest way from a near run without a pair to a far one without.
     */
    private static final class Pairing {
        private Runs near;
        private Runs far;
        private final int[] farOf = new int[CELLS];
        private final int[] nearOf = new int[CELLS];
        private final int[] reachedFrom = new int[CELLS];
        private final int[] waiting = new int[CELLS];

        private int most(Runs nearRuns, Runs farRuns, long nearChosen, long farChosen) {
            near = nearRuns;
            far = farRuns;
            for (int run = 0; run < CELLS; run++) {
                farOf[run] = NONE;
                nearOf[run] = NONE;
            }
            int pairs = 0;
            for (int run = 0; run < near.count; run++) {
                if ((nearChosen >>> run & 1L) != 0L && findPair(run, farChosen)) {
                    pairs++;
                }
            }
            return pairs;
        }

        private boolean findPair(int start, long farChosen) {
            long fresh = farChosen;
            int size = 1;
            waiting[0] = start;
            for (int head = 0; head < size && head < CELLS; head++) {
                int from = waiting[head];
                for (int i = 0; i < near.length[from]; i++) {
                    int to = far.of[near.cellOf(from, i)];
                    if (to == NONE || (fresh >>> to & 1L) == 0L) {
                        continue;
                    }
                    fresh &= ~(1L << to);
                    reachedFrom[to] = from;
                    if (nearOf[to] == NONE) {
                        pairBack(to);
                        return true;
                    }
                    // Each far run is fresh once and has a pair of its own, so no near run waits twice.
                    if (size < CELLS) {
                        waiting[size++] = nearOf[to];
                    }
                }
            }
            return false;
        }

        /** Each near run on the way takes the far run reached from it and sets free the one that it had. */
        private void pairBack(int end) {
            int to = end;
            for (int step = 0; step < CELLS && to != NONE; step++) {
                int from = reachedFrom[to];
                int freed = farOf[from];
                farOf[from] = to;
                nearOf[to] = from;
                to = freed;
            }
        }
    }

    /**
     * The least guards who have to come. Each near run with a cell that is not seen either gets a guard itself, or
     * each far run that crosses it at such a cell gets one. What is chosen and needed takes one guard for each run,
     * less one for each two of them that share a guard in the cell where they cross.
     */
    private static final class Watch {
        private Runs near;
        private Runs far;
        private int best;
        private final long[] unseenFar = new long[RUNS_TOLD];
        private final Pairing pairing;

        private Watch(Pairing pairing) {
            this.pairing = pairing;
        }

        private int leastGuards(Runs nearRuns, Runs farRuns) {
            near = nearRuns;
            far = farRuns;
            best = 0;
            for (int run = 0; run < near.count && run < RUNS_TOLD; run++) {
                unseenFar[run] = findUnseenFar(run);
                if (unseenFar[run] != 0L) {
                    best++;
                }
            }
            choose(0, 0L, 0L);
            return best;
        }

        private long findUnseenFar(int run) {
            long unseen = 0L;
            if (near.guards[run] > 0) {
                return unseen;
            }
            for (int i = 0; i < near.length[run]; i++) {
                int other = far.of[near.cellOf(run, i)];
                if (other != NONE && far.guards[other] == 0) {
                    unseen |= 1L << other;
                }
            }
            return unseen;
        }

        private void choose(int run, long chosen, long needed) {
            int chosenCount = Long.bitCount(chosen);
            int neededCount = Long.bitCount(needed);
            // No guard is in two runs of one direction.
            if (chosenCount >= best || neededCount >= best) {
                return;
            }
            if (run >= near.count || run >= RUNS_TOLD) {
                int guards = chosenCount + neededCount - pairing.most(near, far, chosen, needed);
                best = Math.min(best, guards);
                return;
            }
            long grown = needed | unseenFar[run];
            choose(run + 1, chosen, grown);
            if (grown != needed) {
                choose(run + 1, chosen | 1L << run, needed);
            }
        }
    }

    /** A box, its squares, and where the latest packing has them. */
    private static final class Box {
        private int width;
        private int height;
        private int count;
        private int placesTried;
        private boolean packed;
        private final int[] side = new int[SQUARES];
        private final int[] atX = new int[SQUARES];
        private final int[] atY = new int[SQUARES];
        // For each y the cells that squares lie on, bit x for each.
        private final int[] taken = new int[BOX_SIDE];

        private Box() {
            clear(1, 1);
        }

        private void clear(int newWidth, int newHeight) {
            width = newWidth;
            height = newHeight;
            count = 0;
            packed = false;
        }

        private int append(int newSide) {
            packed = false;
            side[count] = newSide;
            return count++;
        }

        private int removeLast() {
            packed = false;
            return --count;
        }

        private int countLeft() {
            int cells = width * height;
            for (int square = 0; square < count; square++) {
                cells -= side[square] * side[square];
            }
            return cells;
        }

        private int fill(int steps) {
            placesTried = 0;
            int answer = layAll(steps);
            packed = answer == PACKED;
            return answer;
        }

        private int layAll(int steps) {
            emptyBox();
            int square = 0;
            for (int turn = 0; turn < TURNS; turn++) {
                if (square >= count) {
                    return PACKED;
                }
                if (!hasPlace(square)) {
                    if (square == 0) {
                        return CANNOT;
                    }
                    square--;
                    layOrLift(square);
                    goOn(square);
                } else if (placesTried >= steps) {
                    return ENDED;
                } else if (tryPlace(square)) {
                    square++;
                } else {
                    goOn(square);
                }
            }
            return ENDED;
        }

        private void emptyBox() {
            for (int y = 0; y < BOX_SIDE; y++) {
                taken[y] = 0;
            }
            startOver(0);
        }

        private void startOver(int square) {
            if (square < SQUARES) {
                atX[square] = 0;
                atY[square] = 0;
            }
        }

        private boolean hasPlace(int square) {
            return atX[square] + side[square] <= width && atY[square] + side[square] <= height;
        }

        private void goOn(int square) {
            atX[square]++;
            if (atX[square] + side[square] > width) {
                atX[square] = 0;
                atY[square]++;
            }
        }

        private boolean tryPlace(int square) {
            placesTried++;
            if (!isFree(square)) {
                return false;
            }
            layOrLift(square);
            startOver(square + 1);
            return true;
        }

        private int breadthOf(int square) {
            return (1 << side[square]) - 1 << atX[square];
        }

        private boolean isFree(int square) {
            int breadth = breadthOf(square);
            int end = Math.min(atY[square] + side[square], BOX_SIDE);
            for (int y = atY[square]; y < end; y++) {
                if ((taken[y] & breadth) != 0) {
                    return false;
                }
            }
            return true;
        }

        private void layOrLift(int square) {
            int breadth = breadthOf(square);
            int end = Math.min(atY[square] + side[square], BOX_SIDE);
            for (int y = atY[square]; y < end; y++) {
                taken[y] ^= breadth;
            }
        }
    }
}
