import java.util.ArrayList;
import java.util.List;

/**
 * Long runs of calls on one object, with numbers at and beside their bounds, each answer held against a plain model
 * that keeps nothing but what the document names and finds the rest anew at each call.
 */
public final class RunsTest {
    private static final int NONE = -1, OUTSIDE = -2, STATE = -3, ROOM = -4, WIDE = -5;
    private static final int RUNS = 2500, CALLS = 400;
    private static long seed = 19L;
    private static int wrong = 0;
    private static int checked = 0;

    public static void main(String[] args) {
        for (int run = 0; run < RUNS && wrong < 20; run++) {
            oneRun(run);
        }
        System.out.println(checked + " answers looked at, " + wrong + " not as due");
        if (wrong != 0) {
            System.exit(1);
        }
    }

    private static int next(int bound) {
        seed = seed * 6364136223846793005L + 1442695040888963407L;
        return (int) ((seed >>> 33) % bound);
    }

    /** Mostly within the bounds, else beside them or far away. */
    private static int near(int least, int greatest) {
        int kind = next(24);
        if (kind == 0) {
            return least - 1;
        }
        if (kind == 1) {
            return greatest + 1;
        }
        if (kind == 2) {
            return next(2) == 0 ? Integer.MIN_VALUE + next(2) : Integer.MAX_VALUE - next(2);
        }
        if (kind < 6) {
            return next(2) == 0 ? least : greatest;
        }
        return least + next(greatest - least + 1);
    }

    /** The first answer that is not as due ends the run, since what follows tells nothing more. */
    private static void oneRun(int run) {
        GuardPacks x = new GuardPacks();
        Model model = new Model();
        List<String> told = new ArrayList<>();
        boolean hallsAlone = run % 3 == 0;
        boolean boxesAlone = run % 3 == 1;
        for (int i = 0; i < CALLS; i++) {
            boolean hall = hallsAlone || !boxesAlone && next(2) == 0;
            if (!(hall ? hallCall(x, model, told) : boxCall(x, model, told))) {
                System.out.println("run " + run + ": " + told);
                return;
            }
        }
    }

    private static boolean same(List<String> told, String call, int got, int want) {
        checked++;
        told.add(call + " " + got);
        if (got == want) {
            return true;
        }
        wrong++;
        System.out.println(call + " answered " + got + ", due is " + want);
        return false;
    }

    private static boolean hallCall(GuardPacks x, Model model, List<String> told) {
        int u = near(0, model.w - 1);
        int v = near(0, model.h - 1);
        String at = "(" + u + ", " + v + ")";
        int kind = next(40);
        if (kind == 0) {
            // Small halls, so that the model's plain search ends soon.
            int w = next(8) == 0 ? near(1, 8) : near(1, 4);
            int h = next(8) == 0 ? near(1, 8) : near(1, 3);
            return same(told, "hall(" + w + ", " + h + ")", x.hall(w, h), model.hall(w, h));
        }
        if (kind < 10) {
            boolean open = next(3) == 0;
            return same(told, "wall(" + u + ", " + v + ", " + open + ")", x.wall(u, v, open), model.wall(u, v, open));
        }
        if (kind < 15) {
            return same(told, "guard" + at, x.guard(u, v), model.guard(u, v));
        }
        if (kind < 20) {
            return same(told, "leave" + at, x.leave(u, v), model.leave(u, v));
        }
        if (kind < 24) {
            return same(told, "cell" + at, x.cell(u, v), model.cell(u, v));
        }
        if (kind < 26) {
            int direction = near(0, 1);
            return same(told, "runs(" + direction + ")", x.runs(direction), model.runs(direction));
        }
        if (kind < 29) {
            int direction = near(0, 1);
            String call = "run(" + u + ", " + v + ", " + direction + ")";
            return same(told, call, x.run(u, v, direction), model.run(u, v, direction));
        }
        if (kind < 31) {
            return same(told, "sees" + at, x.sees(u, v), model.sees(u, v));
        }
        if (kind < 33) {
            return same(told, "seen()", x.seen(), model.seen());
        }
        if (kind < 36) {
            int i = near(0, next(model.w * model.h));
            return same(told, "missed(" + i + ")", x.missed(i), model.missed(i));
        }
        if (model.w * model.h > 24) {
            return true;
        }
        if (kind < 38) {
            return same(told, "more()", x.more(), model.more());
        }
        return same(told, "peace()", x.peace(), model.peace());
    }

    private static boolean boxCall(GuardPacks x, Model model, List<String> told) {
        int kind = next(32);
        if (kind == 0) {
            int a = near(1, 12);
            int b = near(1, 12);
            return same(told, "box(" + a + ", " + b + ")", x.box(a, b), model.box(a, b));
        }
        if (kind < 7) {
            int side = next(3) == 0 ? near(1, 12) : near(1, 3);
            return same(told, "square(" + side + ")", x.square(side), model.square(side));
        }
        if (kind < 11) {
            return same(told, "drop()", x.drop(), model.drop());
        }
        if (kind < 15) {
            int steps = next(8) == 0 ? near(0, 100000) : near(0, 1 + next(300));
            return same(told, "pack(" + steps + ")", x.pack(steps), model.pack(steps));
        }
        if (kind < 18) {
            return same(told, "tried()", x.tried(), model.tried);
        }
        if (kind < 29) {
            int square = near(0, Math.max(0, model.sides.size() - 1));
            int axis = near(0, 1);
            return same(told, "place(" + square + ", " + axis + ")", x.place(square, axis), model.place(square, axis));
        }
        return same(told, "left()", x.left(), model.left());
    }

    private static final class Model {
        private int w = 1;
        private int h = 1;
        private boolean[] open = {true};
        private boolean[] guarded = {false};
        private int a = 1;
        private int b = 1;
        private final List<Integer> sides = new ArrayList<>();
        private final int[][] laid = new int[8][2];
        private boolean lie = false;
        private int tried = 0;

        private boolean isOutside(int u, int v) {
            return u < 0 || u >= w || v < 0 || v >= h;
        }

        private int hall(int newW, int newH) {
            if (newW < 1 || newW > 8 || newH < 1 || newH > 8) {
                return OUTSIDE;
            }
            w = newW;
            h = newH;
            open = new boolean[w * h];
            guarded = new boolean[w * h];
            java.util.Arrays.fill(open, true);
            return w * h;
        }

        private int wall(int u, int v, boolean opens) {
            if (isOutside(u, v)) {
                return OUTSIDE;
            }
            if (guarded[v * w + u]) {
                return STATE;
            }
            int answer = open[v * w + u] == opens ? 0 : 1;
            open[v * w + u] = opens;
            return answer;
        }

        private int guards() {
            int count = 0;
            for (boolean each : guarded) {
                count += each ? 1 : 0;
            }
            return count;
        }

        private int guard(int u, int v) {
            if (isOutside(u, v)) {
                return OUTSIDE;
            }
            if (!open[v * w + u] || guarded[v * w + u]) {
                return STATE;
            }
            guarded[v * w + u] = true;
            return guards();
        }

        private int leave(int u, int v) {
            if (isOutside(u, v)) {
                return OUTSIDE;
            }
            if (!guarded[v * w + u]) {
                return STATE;
            }
            guarded[v * w + u] = false;
            return guards();
        }

        /** The cells of the run, walked to from one of them. */
        private List<Integer> runAt(int u, int v, int direction) {
            List<Integer> cells = new ArrayList<>();
            int stepX = direction == 0 ? 1 : 0;
            int stepY = 1 - stepX;
            int atX = u;
            int atY = v;
            while (!isOutside(atX - stepX, atY - stepY) && open[(atY - stepY) * w + atX - stepX]) {
                atX -= stepX;
                atY -= stepY;
            }
            while (!isOutside(atX, atY) && open[atY * w + atX]) {
                cells.add(atY * w + atX);
                atX += stepX;
                atY += stepY;
            }
            return cells;
        }

        private long sight(int cell) {
            long sight = 0;
            if (open[cell]) {
                for (int direction = 0; direction < 2; direction++) {
                    for (int other : runAt(cell % w, cell / w, direction)) {
                        sight |= 1L << other;
                    }
                }
            }
            return sight;
        }

        private long watched() {
            long watched = 0;
            for (int cell = 0; cell < w * h; cell++) {
                watched |= guarded[cell] ? sight(cell) : 0;
            }
            return watched;
        }

        private int cell(int u, int v) {
            if (isOutside(u, v)) {
                return OUTSIDE;
            }
            int cell = v * w + u;
            return !open[cell] ? 0 : guarded[cell] ? 3 : (watched() >>> cell & 1) != 0 ? 2 : 1;
        }

        /** The least cells of the runs ahead of a cell, the cell's own with them. */
        private int runsUpTo(int last, int direction) {
            int count = 0;
            for (int cell = 0; cell <= last; cell++) {
                if (open[cell] && runAt(cell % w, cell / w, direction).get(0) == cell) {
                    count++;
                }
            }
            return count;
        }

        private int runs(int direction) {
            return direction != 0 && direction != 1 ? OUTSIDE : runsUpTo(w * h - 1, direction);
        }

        private int run(int u, int v, int direction) {
            if (isOutside(u, v) || direction != 0 && direction != 1) {
                return OUTSIDE;
            }
            return open[v * w + u] ? runsUpTo(runAt(u, v, direction).get(0), direction) - 1 : NONE;
        }

        private int sees(int u, int v) {
            return isOutside(u, v) ? OUTSIDE : Long.bitCount(sight(v * w + u));
        }

        private int seen() {
            return Long.bitCount(watched());
        }

        private int missed(int i) {
            List<Integer> missed = new ArrayList<>();
            long watched = watched();
            for (int cell = 0; cell < w * h; cell++) {
                if (open[cell] && (watched >>> cell & 1) == 0) {
                    missed.add(cell);
                }
            }
            return i < 0 || i >= missed.size() ? NONE : missed.get(i);
        }

        private long[] sights() {
            long[] sights = new long[w * h];
            for (int cell = 0; cell < w * h; cell++) {
                sights[cell] = sight(cell);
            }
            return sights;
        }

        private long allOpen() {
            long all = 0;
            for (int cell = 0; cell < w * h; cell++) {
                all |= open[cell] ? 1L << cell : 0;
            }
            return all;
        }

        private int more() {
            if (runs(0) > 12 && runs(1) > 12) {
                return WIDE;
            }
            long unseen = allOpen() & ~watched();
            long[] sights = sights();
            int come = 0;
            while (!canSee(unseen, sights, come)) {
                come++;
            }
            return come;
        }

        private static boolean canSee(long unseen, long[] sights, int come) {
            if (unseen == 0 || come == 0) {
                return unseen == 0;
            }
            long from = sights[Long.numberOfTrailingZeros(unseen)];
            for (int cell = 0; cell < sights.length; cell++) {
                if ((from >>> cell & 1) != 0 && canSee(unseen & ~sights[cell], sights, come - 1)) {
                    return true;
                }
            }
            return false;
        }

        private int peace() {
            return mostApart(allOpen(), sights());
        }

        /** Of the first cell's runs, either it or another one of its cells stands, or none of them does. */
        private static int mostApart(long free, long[] sights) {
            if (free == 0) {
                return 0;
            }
            int cell = Long.numberOfTrailingZeros(free);
            int with = 1 + mostApart(free & ~sights[cell], sights);
            if ((free & sights[cell]) == 1L << cell) {
                return with;
            }
            return Math.max(with, mostApart(free & ~(1L << cell), sights));
        }

        private int box(int newA, int newB) {
            if (newA < 1 || newA > 12 || newB < 1 || newB > 12) {
                return OUTSIDE;
            }
            a = newA;
            b = newB;
            sides.clear();
            lie = false;
            return a * b;
        }

        private int square(int side) {
            if (side < 1 || side > 12) {
                return OUTSIDE;
            }
            if (sides.size() == 8) {
                return ROOM;
            }
            sides.add(side);
            lie = false;
            return sides.size() - 1;
        }

        private int drop() {
            if (sides.isEmpty()) {
                return STATE;
            }
            sides.remove(sides.size() - 1);
            lie = false;
            return sides.size();
        }

        private int pack(int steps) {
            if (steps < 0 || steps > 100000) {
                return OUTSIDE;
            }
            tried = 0;
            int answer = lay(0, steps);
            lie = answer == 1;
            return answer;
        }

        private int lay(int i, int steps) {
            if (i == sides.size()) {
                return 1;
            }
            for (int v = 0; v + sides.get(i) <= b; v++) {
                for (int u = 0; u + sides.get(i) <= a; u++) {
                    if (tried == steps) {
                        return 2;
                    }
                    tried++;
                    laid[i][0] = u;
                    laid[i][1] = v;
                    int answer = isClear(i) ? lay(i + 1, steps) : 0;
                    if (answer != 0) {
                        return answer;
                    }
                }
            }
            return 0;
        }

        private boolean isClear(int i) {
            for (int j = 0; j < i; j++) {
                boolean besideX = laid[i][0] >= laid[j][0] + sides.get(j) || laid[j][0] >= laid[i][0] + sides.get(i);
                boolean besideY = laid[i][1] >= laid[j][1] + sides.get(j) || laid[j][1] >= laid[i][1] + sides.get(i);
                if (!besideX && !besideY) {
                    return false;
                }
            }
            return true;
        }

        private int place(int square, int axis) {
            if (axis != 0 && axis != 1) {
                return OUTSIDE;
            }
            return !lie || square < 0 || square >= sides.size() ? NONE : laid[square][axis];
        }

        private int left() {
            int left = a * b;
            for (int side : sides) {
                left -= side * side;
            }
            return left;
        }
    }
}
