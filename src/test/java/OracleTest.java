import java.util.ArrayList;
import java.util.List;

/** Halls and boxes by a fixed row of numbers, each answer held against a slow and plain way to find it. */
public final class OracleTest {
    private static long seed = 20261116L;
    private static int wrong = 0;
    private static int checked = 0;

    private static int next(int bound) {
        seed = seed * 6364136223846793005L + 1442695040888963407L;
        return (int) ((seed >>> 33) % bound);
    }

    private static void due(String call, int got, int want) {
        checked++;
        if (got != want) {
            wrong++;
            System.out.println(call + " answered " + got + ", due is " + want);
        }
    }

    public static void main(String[] args) {
        for (int i = 0; i < 1500; i++) {
            compareHall(i, 1 + next(8), 1 + next(8), next(10));
        }
        for (int i = 0; i < 1500; i++) {
            compareMore(i, 1 + next(5), 1 + next(4), next(6));
        }
        for (int i = 0; i < 400; i++) {
            compareMore(i, 5 + next(4), 3 + next(2), next(5));
        }
        int compared = 0;
        for (int i = 0; i < 4000 && compared < 250; i++) {
            if (compareMoreByRuns(i, 3 + next(6), 4 + next(5), next(10))) {
                compared++;
            }
        }
        due("halls of 8 to 12 runs", compared, 250);
        for (int i = 0; i < 1500; i++) {
            compareBox(i);
        }
        System.out.println(checked + " answers looked at, " + wrong + " not as due");
        if (wrong != 0) {
            System.exit(1);
        }
    }

    // ---- halls

    private static int w;
    private static int h;
    private static boolean[][] open;
    private static boolean[][] guarded;
    private static int guards;

    private static GuardPacks makeHall(int width, int height, int shutOfTen, int calls) {
        w = width;
        h = height;
        open = new boolean[h][w];
        guarded = new boolean[h][w];
        guards = 0;
        GuardPacks x = new GuardPacks();
        due("hall", x.hall(w, h), w * h);
        for (int v = 0; v < h; v++) {
            for (int u = 0; u < w; u++) {
                open[v][u] = next(10) >= shutOfTen;
                due("wall", x.wall(u, v, open[v][u]), open[v][u] ? 0 : 1);
            }
        }
        for (int i = 0; i < calls; i++) {
            change(x);
        }
        return x;
    }

    private static void change(GuardPacks x) {
        int u = next(w + 2) - 1;
        int v = next(h + 2) - 1;
        boolean inside = u >= 0 && u < w && v >= 0 && v < h;
        int kind = next(4);
        if (kind == 0) {
            boolean opens = next(2) == 0;
            int want = !inside ? -2 : guarded[v][u] ? -3 : open[v][u] == opens ? 0 : 1;
            due("wall(" + u + ", " + v + ", " + opens + ")", x.wall(u, v, opens), want);
            if (want >= 0) {
                open[v][u] = opens;
            }
        } else if (kind == 1) {
            int want = !inside ? -2 : guarded[v][u] ? --guards : -3;
            due("leave(" + u + ", " + v + ")", x.leave(u, v), want);
            if (want >= 0) {
                guarded[v][u] = false;
            }
        } else {
            int want = !inside ? -2 : !open[v][u] || guarded[v][u] ? -3 : ++guards;
            due("guard(" + u + ", " + v + ")", x.guard(u, v), want);
            if (want >= 0) {
                guarded[v][u] = true;
            }
        }
    }

    /** Whether two open cells are in one run of a direction. */
    private static boolean together(int a, int b, int direction) {
        int ax = a % w, ay = a / w, bx = b % w, by = b / w;
        if (direction == 0 ? ay != by : ax != bx) {
            return false;
        }
        for (int v = Math.min(ay, by); v <= Math.max(ay, by); v++) {
            for (int u = Math.min(ax, bx); u <= Math.max(ax, bx); u++) {
                if (!open[v][u]) {
                    return false;
                }
            }
        }
        return true;
    }

    private static long sightOf(int cell) {
        long sight = 0;
        for (int other = 0; other < w * h; other++) {
            if (together(cell, other, 0) || together(cell, other, 1)) {
                sight |= 1L << other;
            }
        }
        return sight;
    }

    private static int leastOf(int cell, int direction) {
        for (int other = 0; other < cell; other++) {
            if (together(cell, other, direction)) {
                return other;
            }
        }
        return cell;
    }

    private static void compareHall(int round, int width, int height, int shutOfTen) {
        GuardPacks x = makeHall(width, height, shutOfTen, next(60));
        String what = "hall " + round + " ";
        List<List<Integer>> leasts = new ArrayList<>();
        for (int direction = 0; direction < 2; direction++) {
            List<Integer> least = new ArrayList<>();
            for (int cell = 0; cell < w * h; cell++) {
                if (open[cell / w][cell % w] && leastOf(cell, direction) == cell) {
                    least.add(cell);
                }
            }
            leasts.add(least);
            due(what + "runs(" + direction + ")", x.runs(direction), least.size());
        }
        long watched = 0;
        for (int cell = 0; cell < w * h; cell++) {
            if (guarded[cell / w][cell % w]) {
                watched |= sightOf(cell);
            }
        }
        int missed = 0;
        for (int cell = 0; cell < w * h; cell++) {
            int u = cell % w, v = cell / w;
            boolean isSeen = (watched >>> cell & 1) != 0;
            due(what + "cell", x.cell(u, v), !open[v][u] ? 0 : guarded[v][u] ? 3 : isSeen ? 2 : 1);
            due(what + "sees", x.sees(u, v), open[v][u] ? Long.bitCount(sightOf(cell)) : 0);
            for (int direction = 0; direction < 2; direction++) {
                due(what + "run", x.run(u, v, direction),
                        open[v][u] ? leasts.get(direction).indexOf(leastOf(cell, direction)) : -1);
            }
            if (open[v][u] && !isSeen) {
                due(what + "missed(" + missed + ")", x.missed(missed), cell);
                missed++;
            }
        }
        due(what + "missed behind the last", x.missed(missed), -1);
        due(what + "seen", x.seen(), Long.bitCount(watched));
        comparePeace(what, x);
        int fewer = Math.min(leasts.get(0).size(), leasts.get(1).size());
        due(what + "more is wide", x.more() == -5 ? 1 : 0, fewer > 12 ? 1 : 0);
    }

    /** The greatest pairing of row runs with column runs, grown by plain recursion over all cells. */
    private static void comparePeace(String what, GuardPacks x) {
        int cells = w * h;
        int[] nearOf = new int[cells];
        int[] farOf = new int[cells];
        for (int cell = 0; cell < cells; cell++) {
            nearOf[cell] = open[cell / w][cell % w] ? leastOf(cell, 0) : -1;
            farOf[cell] = open[cell / w][cell % w] ? leastOf(cell, 1) : -1;
        }
        int[] pair = new int[cells];
        java.util.Arrays.fill(pair, -1);
        int most = 0;
        for (int near = 0; near < cells; near++) {
            if (nearOf[near] == near && augment(near, nearOf, farOf, pair, new boolean[cells])) {
                most++;
            }
        }
        due(what + "peace", x.peace(), most);
    }

    private static boolean augment(int near, int[] nearOf, int[] farOf, int[] pair, boolean[] met) {
        for (int cell = 0; cell < nearOf.length; cell++) {
            if (nearOf[cell] == near && !met[farOf[cell]]) {
                met[farOf[cell]] = true;
                if (pair[farOf[cell]] < 0 || augment(pair[farOf[cell]], nearOf, farOf, pair, met)) {
                    pair[farOf[cell]] = near;
                    return true;
                }
            }
        }
        return false;
    }

    private static void compareMore(int round, int width, int height, int shutOfTen) {
        boolean turned = next(2) == 0;
        GuardPacks x = makeHall(turned ? height : width, turned ? width : height, shutOfTen, next(9));
        long all = 0;
        long watched = 0;
        for (int cell = 0; cell < w * h; cell++) {
            if (open[cell / w][cell % w]) {
                all |= 1L << cell;
            }
            if (guarded[cell / w][cell % w]) {
                watched |= sightOf(cell);
            }
        }
        long[] sight = new long[w * h];
        for (int cell = 0; cell < w * h; cell++) {
            sight[cell] = (all >>> cell & 1) != 0 ? sightOf(cell) : 0;
        }
        int widest = 0;
        for (long each : sight) {
            widest = Math.max(widest, Long.bitCount(each));
        }
        if (Math.min(x.runs(0), x.runs(1)) <= 12) {
            int least = 0;
            while (!canWatch(all, watched, sight, least, widest)) {
                least++;
            }
            due("more " + round, x.more(), least);
        }
        due("peace " + round, x.peace(), mostApart(all, sight, 0));
    }

    /** The first cell that is not seen has to be seen by one of the guards who come. */
    private static boolean canWatch(long all, long watched, long[] sight, int come, int widest) {
        long unseen = all & ~watched;
        if (unseen == 0) {
            return true;
        }
        if (come * widest < Long.bitCount(unseen)) {
            return false;
        }
        long from = sight[Long.numberOfTrailingZeros(unseen)];
        for (int cell = 0; cell < sight.length; cell++) {
            if ((from >>> cell & 1) != 0 && canWatch(all, watched | sight[cell], sight, come - 1, widest)) {
                return true;
            }
        }
        return false;
    }

    /**
     * Halls too large for the search above. For each set of near runs that are to get a guard, the far runs are gone
     * through one by one: the least guards for each set of near runs that have theirs by then.
     */
    private static boolean compareMoreByRuns(int round, int width, int height, int shutOfTen) {
        GuardPacks x = makeHall(width, height, shutOfTen, next(12));
        int direction = x.runs(0) <= x.runs(1) ? 0 : 1;
        int nearRuns = x.runs(direction);
        int farRuns = x.runs(1 - direction);
        if (nearRuns < 8 || nearRuns > 12) {
            return false;
        }
        boolean[][] cross = new boolean[farRuns][nearRuns];
        int watchedNear = 0;
        long watchedFar = 0;
        for (int cell = 0; cell < w * h; cell++) {
            int u = cell % w, v = cell / w;
            if (open[v][u]) {
                int near = x.run(u, v, direction);
                int far = x.run(u, v, 1 - direction);
                cross[far][near] = true;
                watchedNear |= guarded[v][u] ? 1 << near : 0;
                watchedFar |= guarded[v][u] ? 1L << far : 0;
            }
        }
        int least = Integer.MAX_VALUE;
        for (int wanted = 0; wanted < 1 << nearRuns; wanted++) {
            if ((wanted & watchedNear) == 0) {
                least = Math.min(least, leastFor(wanted, watchedNear, watchedFar, cross, nearRuns));
            }
        }
        due("more of few runs " + round, x.more(), least);
        return true;
    }

    private static final int[] oneRow = new int[1 << 12];
    private static final int[] otherRow = new int[1 << 12];

    private static int leastFor(int wanted, int watchedNear, long watchedFar, boolean[][] cross, int nearRuns) {
        int[] least = oneRow;
        int[] with = otherRow;
        java.util.Arrays.fill(least, 1000);
        least[0] = 0;
        for (int run = 0; run < cross.length; run++) {
            boolean needs = false;
            for (int near = 0; near < nearRuns; near++) {
                boolean nearIsWatched = ((wanted | watchedNear) >>> near & 1) != 0;
                needs |= cross[run][near] && (watchedFar >>> run & 1) == 0 && !nearIsWatched;
            }
            for (int has = wanted;; has = has - 1 & wanted) {
                // A guard in a cell whose near run needs none.
                with[has] = least[has] + (needs ? 1 : 0);
                if (has == 0) {
                    break;
                }
            }
            for (int near = 0; near < nearRuns; near++) {
                if (cross[run][near] && (wanted >>> near & 1) != 0) {
                    guardAt(near, wanted, least, with);
                }
            }
            int[] used = least;
            least = with;
            with = used;
        }
        return least[wanted];
    }

    /** The first guard of a far run counts from what was before it, a further one from what the run has by now. */
    private static void guardAt(int near, int wanted, int[] before, int[] with) {
        for (int has = wanted;; has = has - 1 & wanted) {
            if ((has >>> near & 1) != 0) {
                int without = has & ~(1 << near);
                with[has] = Math.min(with[has], 1 + Math.min(before[without], with[without]));
            }
            if (has == 0) {
                return;
            }
        }
    }

    private static int mostApart(long free, long[] sight, int count) {
        if (free == 0) {
            return count;
        }
        int cell = Long.numberOfTrailingZeros(free);
        int with = mostApart(free & ~sight[cell], sight, count + 1);
        // A cell that only stands against one other is never worse than that one.
        if (Long.bitCount(free & sight[cell]) <= 2) {
            return with;
        }
        return Math.max(with, mostApart(free & ~(1L << cell), sight, count));
    }

    // ---- boxes

    private static int boxTried;
    private static final int[] placeX = new int[8];
    private static final int[] placeY = new int[8];

    private static void compareBox(int round) {
        int most = round % 3 == 0 ? 12 : 6;
        int a = 1 + next(most);
        int b = 1 + next(most);
        GuardPacks x = new GuardPacks();
        due("box", x.box(a, b), a * b);
        int count = next(9);
        int[] sides = new int[count];
        int left = a * b;
        for (int i = 0; i < count; i++) {
            sides[i] = 1 + next(Math.max(1, Math.min(12, Math.min(a, b) * 2 / 3 + next(3))));
            left -= sides[i] * sides[i];
            due("square", x.square(sides[i]), i);
        }
        int steps = next(3) == 0 ? next(60) : next(2) == 0 ? next(100001) : 100000;
        boxTried = 0;
        int want = lay(a, b, sides, 0, steps);
        String what = "box " + round + " ";
        due(what + "pack(" + steps + ")", x.pack(steps), want);
        due(what + "tried", x.tried(), boxTried);
        due(what + "left", x.left(), left);
        for (int i = 0; i < 8; i++) {
            due(what + "place x", x.place(i, 0), want == 1 && i < count ? placeX[i] : -1);
            due(what + "place y", x.place(i, 1), want == 1 && i < count ? placeY[i] : -1);
        }
    }

    private static int lay(int a, int b, int[] sides, int i, int steps) {
        if (i == sides.length) {
            return 1;
        }
        for (int v = 0; v <= b - sides[i]; v++) {
            for (int u = 0; u <= a - sides[i]; u++) {
                if (boxTried == steps) {
                    return 2;
                }
                boxTried++;
                placeX[i] = u;
                placeY[i] = v;
                if (liesApart(sides, i)) {
                    int answer = lay(a, b, sides, i + 1, steps);
                    if (answer != 0) {
                        return answer;
                    }
                }
            }
        }
        return 0;
    }

    private static boolean liesApart(int[] sides, int i) {
        for (int j = 0; j < i; j++) {
            if (placeX[i] < placeX[j] + sides[j] && placeX[j] < placeX[i] + sides[i]
                    && placeY[i] < placeY[j] + sides[j] && placeY[j] < placeY[i] + sides[i]) {
                return false;
            }
        }
        return true;
    }
}
