import java.util.ArrayDeque;
import java.util.ArrayList;
import java.util.List;

/** The document told again, cell by cell and without any thought of speed, to compare PlaneFills with. */
final class NaiveFills {
    static final int W = 32;
    static final int H = 24;

    static final class P {
        int net, layer, rank, step, width, islands;
        boolean narrow;
        List<List<long[]>> closed = new ArrayList<>();
        List<long[]> open = new ArrayList<>();
        boolean[][] filled = new boolean[W][H];
        List<boolean[][]> pieces = new ArrayList<>();
    }

    static final class Result {
        boolean[][] filled;
        int islands;
        boolean narrow;
        List<boolean[][]> pieces;
    }

    final int layers;
    final List<P> planes = new ArrayList<>();
    final List<long[]> obstacles = new ArrayList<>();
    final List<long[]> pads = new ArrayList<>();
    final long[] rules = {1, 1, 1, 0};

    NaiveFills(int layers) {
        this.layers = layers < 1 ? 1 : layers > 4 ? 4 : layers;
    }

    private static void index(boolean holds) {
        if (!holds) {
            throw new IndexOutOfBoundsException();
        }
    }

    private static void argument(boolean holds) {
        if (!holds) {
            throw new IllegalArgumentException();
        }
    }

    private static boolean within(long v, long least, long most) {
        return least <= v && v <= most;
    }

    private P get(int plane) {
        index(within(plane, 0, planes.size() - 1));
        return planes.get(plane);
    }

    int plane(int net, int layer, int rank) {
        index(within(layer, 0, layers - 1));
        argument(within(net, 0, 99) && within(rank, -100, 100));
        if (planes.size() == 8) {
            return -1;
        }
        P p = new P();
        p.net = net;
        p.layer = layer;
        p.rank = rank;
        planes.add(p);
        return planes.size() - 1;
    }

    boolean corner(int plane, long x, long y) {
        P p = get(plane);
        argument(within(x, 0, W) && within(y, 0, H));
        if (p.open.size() == 12 || p.closed.size() == 4) {
            return false;
        }
        p.open.add(new long[] {x, y});
        return true;
    }

    boolean ring(int plane) {
        P p = get(plane);
        if (p.open.size() < 3) {
            return false;
        }
        p.closed.add(p.open);
        p.open = new ArrayList<>();
        return true;
    }

    int obstacle(int net, int layer, long x, long y, long r) {
        index(within(layer, 0, layers - 1));
        argument(within(net, 0, 99) && within(x, 0, W) && within(y, 0, H) && within(r, 0, 20));
        if (obstacles.size() == 20) {
            return -1;
        }
        obstacles.add(new long[] {net, layer, x, y, r});
        return obstacles.size() - 1;
    }

    boolean rule(int kind, long v) {
        index(within(kind, 0, 3));
        argument(within(v, kind == 2 ? 1 : 0, kind == 0 ? 5 : kind == 1 ? 4 : kind == 2 ? 5 : 1000));
        boolean other = rules[kind] != v;
        rules[kind] = v;
        return other;
    }

    int pad(int net, int layer, long x, long y, long w, long h) {
        index(within(layer, 0, layers - 1));
        argument(within(net, 0, 99) && within(x, 0, W - 1) && within(y, 0, H - 1) && within(w, 1, W) && within(h, 1, H));
        argument(x + w <= W && y + h <= H);
        if (pads.size() == 10) {
            return -1;
        }
        pads.add(new long[] {net, layer, x, y, w, h});
        return pads.size() - 1;
    }

    int fill() {
        List<Result> results = compute();
        int n = 0;
        for (int i = 0; i < planes.size(); i++) {
            P p = planes.get(i);
            Result r = results.get(i);
            p.filled = r.filled;
            p.islands = r.islands;
            p.narrow = r.narrow;
            p.pieces = r.pieces;
            n += p.pieces.size();
        }
        return n;
    }

    int rings(int plane, int piece) {
        P p = get(plane);
        index(within(piece, 0, p.pieces.size() - 1));
        return 1 + holes(p.pieces.get(piece)).size();
    }

    long at(int plane, int piece, int ring, int k, int what) {
        P p = get(plane);
        index(within(piece, 0, p.pieces.size() - 1));
        boolean[][] cells = p.pieces.get(piece);
        List<boolean[][]> holes = holes(cells);
        index(within(ring, 0, holes.size()));
        index(within(what, 0, 1));
        boolean[][] of = ring == 0 ? edge(cells) : holes.get(ring - 1);
        int n = 0;
        for (int y = 0; y < H; y++) {
            for (int x = 0; x < W; x++) {
                if (of[x][y]) {
                    if (n == k) {
                        return what == 0 ? x : y;
                    }
                    n++;
                }
            }
        }
        throw new IndexOutOfBoundsException();
    }

    boolean in(int plane, long x, long y) {
        P p = get(plane);
        return onBoard(x, y) && p.filled[(int) x][(int) y];
    }

    int islands(int plane) {
        return get(plane).islands;
    }

    boolean narrow(int plane) {
        return get(plane).narrow;
    }

    int spoke(int pad, int k, int what) {
        index(within(pad, 0, pads.size() - 1) && within(k, 0, 3) && within(what, 0, 2));
        long[] p = pads.get(pad);
        if (what > 0) {
            long row = p[3] + (p[5] - 1) / 2;
            long column = p[2] + (p[4] - 1) / 2;
            long[][] next = {{p[2] + p[4], row}, {column, p[3] + p[5]}, {p[2] - 1, row}, {column, p[3] - 1}};
            return (int) next[k][what - 1];
        }
        int has = 0;
        int full = 0;
        for (int x = 0; x < W; x++) {
            for (int y = 0; y < H; y++) {
                if (spokeOf(p, x, y) == k) {
                    has++;
                    for (P plane : planes) {
                        if (plane.net == p[0] && plane.layer == p[1] && plane.filled[x][y]) {
                            full++;
                            break;
                        }
                    }
                }
            }
        }
        return has > 0 && full == has ? 1 : 0;
    }

    int stitch(int net, long step) {
        argument(within(net, 0, 99) && within(step, 1, 16));
        int n = 0;
        for (int x = 0; x < W; x++) {
            for (int y = 0; y < H; y++) {
                boolean[] on = new boolean[layers];
                for (P p : planes) {
                    on[p.layer] |= p.net == net && p.filled[x][y];
                }
                int count = 0;
                for (boolean each : on) {
                    count += each ? 1 : 0;
                }
                n += x % step == 0 && y % step == 0 && count >= 2 ? 1 : 0;
            }
        }
        return n;
    }

    boolean hatch(int plane, long step, long width) {
        P p = get(plane);
        argument(within(step, 0, 16) && within(width, 0, step));
        boolean other = p.step != step || p.width != width;
        p.step = (int) step;
        p.width = (int) width;
        return other;
    }

    boolean changed(long x0, long y0, long x1, long y1) {
        List<Result> results = compute();
        for (int i = 0; i < planes.size(); i++) {
            for (int x = 0; x < W; x++) {
                for (int y = 0; y < H; y++) {
                    if (x0 <= x && x <= x1 && y0 <= y && y <= y1 && results.get(i).filled[x][y] != planes.get(i).filled[x][y]) {
                        return false;
                    }
                }
            }
        }
        return true;
    }

    // How planes are filled.

    private static boolean onBoard(long x, long y) {
        return within(x, 0, W - 1) && within(y, 0, H - 1);
    }

    private boolean before(int a, int b) {
        P p = planes.get(a);
        P q = planes.get(b);
        return p.rank > q.rank || p.rank == q.rank && a < b;
    }

    private List<Result> compute() {
        Result[] results = new Result[planes.size()];
        for (int n = 0; n < results.length; n++) {
            int next = -1;
            for (int i = 0; i < results.length; i++) {
                if (results[i] == null && (next < 0 || before(i, next))) {
                    next = i;
                }
            }
            results[next] = computeOne(planes.get(next), results);
        }
        return List.of(results);
    }

    private Result computeOne(P p, Result[] done) {
        boolean[][] free = new boolean[W][H];
        for (int x = 0; x < W; x++) {
            for (int y = 0; y < H; y++) {
                free[x][y] = outline(p, x, y) && !byObstacle(p, x, y) && !byPad(p, x, y) && !byPlane(p, done, x, y);
            }
        }
        Result r = new Result();
        boolean[][] left = new boolean[W][H];
        for (int x = 0; x < W; x++) {
            for (int y = 0; y < H; y++) {
                left[x][y] = free[x][y] && inSquare(free, x, y);
                r.narrow |= left[x][y] != free[x][y];
                if (p.step > 0 && x % p.step >= p.width && y % p.step >= p.width) {
                    left[x][y] = false;
                }
            }
        }
        r.pieces = new ArrayList<>();
        for (boolean[][] piece : groups(left, false)) {
            if (count(piece) < rules[3] && !holdsPad(p, piece)) {
                r.islands++;
                for (int x = 0; x < W; x++) {
                    for (int y = 0; y < H; y++) {
                        left[x][y] &= !piece[x][y];
                    }
                }
            } else {
                r.pieces.add(piece);
            }
        }
        r.filled = left;
        return r;
    }

    private static boolean outline(P p, int x, int y) {
        int crossings = 0;
        for (List<long[]> ring : p.closed) {
            for (int k = 0; k < ring.size(); k++) {
                long[] a = ring.get(k);
                long[] b = ring.get((k + 1) % ring.size());
                boolean aAbove = 2 * a[1] > 2 * y + 1;
                boolean bAbove = 2 * b[1] > 2 * y + 1;
                if (aAbove != bAbove) {
                    long low = bAbove ? b[1] - a[1] : a[1] - b[1];
                    long part = (2 * y + 1 - 2 * a[1]) * (b[0] - a[0]) * (bAbove ? 1 : -1);
                    // twice (a's x + part - middle's x), times the side's height
                    if (2 * a[0] * low + part - (2 * x + 1) * low > 0) {
                        crossings++;
                    }
                }
            }
        }
        return crossings % 2 == 1;
    }

    private boolean byObstacle(P p, int x, int y) {
        for (long[] o : obstacles) {
            double dx = x + 0.5 - o[2];
            double dy = y + 0.5 - o[3];
            double reach = o[4] + rules[0];
            if (o[0] != p.net && o[1] == p.layer && dx * dx + dy * dy <= reach * reach) {
                return true;
            }
        }
        return false;
    }

    private static boolean inPad(long[] pad, int x, int y) {
        return x >= pad[2] && x < pad[2] + pad[4] && y >= pad[3] && y < pad[3] + pad[5];
    }

    private static boolean nearPad(long[] pad, int x, int y, long off) {
        for (int dx = (int) -off; dx <= off; dx++) {
            for (int dy = (int) -off; dy <= off; dy++) {
                if (inPad(pad, x + dx, y + dy)) {
                    return true;
                }
            }
        }
        return false;
    }

    /** The spoke of a pad on which a cell lies, or -1. */
    private int spokeOf(long[] p, int x, int y) {
        for (int off = 1; off <= rules[1]; off++) {
            if (y == p[3] + (p[5] - 1) / 2) {
                if (x == p[2] + p[4] - 1 + off) {
                    return 0;
                }
                if (x == p[2] - off) {
                    return 2;
                }
            }
            if (x == p[2] + (p[4] - 1) / 2) {
                if (y == p[3] + p[5] - 1 + off) {
                    return 1;
                }
                if (y == p[3] - off) {
                    return 3;
                }
            }
        }
        return -1;
    }

    private boolean byPad(P p, int x, int y) {
        for (long[] pad : pads) {
            if (pad[1] != p.layer) {
                continue;
            }
            if (pad[0] != p.net) {
                if (nearPad(pad, x, y, rules[0])) {
                    return true;
                }
            } else if (nearPad(pad, x, y, rules[1]) && !inPad(pad, x, y) && spokeOf(pad, x, y) < 0) {
                return true;
            }
        }
        return false;
    }

    private boolean byPlane(P p, Result[] done, int x, int y) {
        for (int i = 0; i < done.length; i++) {
            P other = planes.get(i);
            if (done[i] == null || other.net == p.net || other.layer != p.layer) {
                continue;
            }
            for (int a = 0; a < W; a++) {
                for (int b = 0; b < H; b++) {
                    if (done[i].filled[a][b] && Math.abs(a - x) <= rules[0] && Math.abs(b - y) <= rules[0]) {
                        return true;
                    }
                }
            }
        }
        return false;
    }

    private boolean inSquare(boolean[][] cells, int x, int y) {
        int n = (int) rules[2];
        for (int a = x - n + 1; a <= x; a++) {
            for (int b = y - n + 1; b <= y; b++) {
                boolean all = true;
                for (int i = 0; i < n; i++) {
                    for (int j = 0; j < n; j++) {
                        all &= onBoard(a + i, b + j) && cells[a + i][b + j];
                    }
                }
                if (all) {
                    return true;
                }
            }
        }
        return false;
    }

    private static int count(boolean[][] cells) {
        int n = 0;
        for (boolean[] column : cells) {
            for (boolean cell : column) {
                n += cell ? 1 : 0;
            }
        }
        return n;
    }

    private boolean holdsPad(P p, boolean[][] piece) {
        for (long[] pad : pads) {
            for (int x = 0; x < W; x++) {
                for (int y = 0; y < H; y++) {
                    if (pad[0] == p.net && pad[1] == p.layer && piece[x][y] && inPad(pad, x, y)) {
                        return true;
                    }
                }
            }
        }
        return false;
    }

    private static List<boolean[][]> groups(boolean[][] cells, boolean askew) {
        List<boolean[][]> found = new ArrayList<>();
        boolean[][] seen = new boolean[W][H];
        for (int y = 0; y < H; y++) {
            for (int x = 0; x < W; x++) {
                if (!cells[x][y] || seen[x][y]) {
                    continue;
                }
                boolean[][] group = new boolean[W][H];
                ArrayDeque<int[]> todo = new ArrayDeque<>();
                todo.add(new int[] {x, y});
                seen[x][y] = true;
                while (!todo.isEmpty()) {
                    int[] c = todo.remove();
                    group[c[0]][c[1]] = true;
                    for (int dx = -1; dx <= 1; dx++) {
                        for (int dy = -1; dy <= 1; dy++) {
                            int a = c[0] + dx;
                            int b = c[1] + dy;
                            if ((askew || dx == 0 || dy == 0) && onBoard(a, b) && cells[a][b] && !seen[a][b]) {
                                seen[a][b] = true;
                                todo.add(new int[] {a, b});
                            }
                        }
                    }
                }
                found.add(group);
            }
        }
        return found;
    }

    private static List<boolean[][]> holes(boolean[][] piece) {
        boolean[][] others = new boolean[W][H];
        for (int x = 0; x < W; x++) {
            for (int y = 0; y < H; y++) {
                others[x][y] = !piece[x][y];
            }
        }
        List<boolean[][]> holes = new ArrayList<>();
        for (boolean[][] group : groups(others, true)) {
            boolean border = false;
            for (int x = 0; x < W; x++) {
                border |= group[x][0] || group[x][H - 1];
            }
            for (int y = 0; y < H; y++) {
                border |= group[0][y] || group[W - 1][y];
            }
            if (!border) {
                holes.add(group);
            }
        }
        return holes;
    }

    private static boolean[][] edge(boolean[][] piece) {
        boolean[][] edge = new boolean[W][H];
        for (int x = 0; x < W; x++) {
            for (int y = 0; y < H; y++) {
                boolean inner = onBoard(x - 1, y) && piece[x - 1][y] && onBoard(x + 1, y) && piece[x + 1][y]
                    && onBoard(x, y - 1) && piece[x][y - 1] && onBoard(x, y + 1) && piece[x][y + 1];
                edge[x][y] = piece[x][y] && !inner;
            }
        }
        return edge;
    }
}
