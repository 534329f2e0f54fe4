/** Long runs of calls, ordinary and wrong, on PlaneFills and on NaiveFills: their answers must be the same. */
public final class NaiveTest {
    private static final int RUNS = 400;
    private static final int CALLS = 160;
    private static final String[] NAMES = {
        "plane", "corner", "ring", "obstacle", "rule", "pad", "fill", "rings", "at", "in",
        "islands", "spoke", "stitch", "hatch", "changed", "narrow", "shape", "sweep"
    };
    private static final int[] WEIGHTS = {4, 8, 4, 4, 5, 4, 8, 5, 8, 5, 3, 6, 5, 3, 6, 3, 9, 2};

    private static long seed;
    private static int wrong;

    private PlaneFills a;
    private NaiveFills b;
    private StringBuilder told = new StringBuilder();

    private static int random(int bound) {
        seed = seed * 6364136223846793005L + 1442695040888963407L;
        return (int) ((seed >>> 33) % bound);
    }

    /** Mostly from least to most, sometimes just off, sometimes far off. */
    private static int number(int least, int most) {
        int kind = random(60);
        if (kind == 0) {
            return least - 1;
        }
        if (kind == 1) {
            return most + 1;
        }
        if (kind == 2) {
            return random(2) == 0 ? Integer.MIN_VALUE : Integer.MAX_VALUE;
        }
        return least + random(most - least + 1);
    }

    private static long wide(int least, int most) {
        int kind = random(90);
        if (kind == 0) {
            return random(2) == 0 ? Long.MIN_VALUE : Long.MAX_VALUE;
        }
        return kind == 1 ? (1L << 32) + random(20) : number(least, most);
    }

    /** As wide, but often near a border of the board, where moats, gaps and spokes reach over it. */
    private static long nearBorder(int most) {
        if (random(3) > 0) {
            return wide(0, most);
        }
        return random(2) == 0 ? random(4) : most - random(4);
    }

    private String answer(boolean naive, int call, long[] v) {
        try {
            return naive ? naiveAnswer(call, v) : answer(call, v);
        } catch (RuntimeException e) {
            // PlaneFills itself must throw, neither the machine nor the library for it.
            boolean own = naive || e.getStackTrace().length > 0 && e.getStackTrace()[0].getClassName().startsWith("PlaneFills");
            return own ? "throws." + e.getClass().getSimpleName() : "from elsewhere " + e;
        }
    }

    private String answer(int call, long[] v) {
        switch (call) {
            case 0: return "" + a.plane((int) v[0], (int) v[1], (int) v[2]);
            case 1: return "" + a.corner((int) v[0], v[1], v[2]);
            case 2: return "" + a.ring((int) v[0]);
            case 3: return "" + a.obstacle((int) v[0], (int) v[1], v[2], v[3], v[4]);
            case 4: return "" + a.rule((int) v[0], v[1]);
            case 5: return "" + a.pad((int) v[0], (int) v[1], v[2], v[3], v[4], v[5]);
            case 6: return "" + a.fill();
            case 7: return "" + a.rings((int) v[0], (int) v[1]);
            case 8: return "" + a.at((int) v[0], (int) v[1], (int) v[2], (int) v[3], (int) v[4]);
            case 9: return "" + a.in((int) v[0], v[1], v[2]);
            case 10: return "" + a.islands((int) v[0]);
            case 11: return "" + a.spoke((int) v[0], (int) v[1], (int) v[2]);
            case 12: return "" + a.stitch((int) v[0], v[1]);
            case 13: return "" + a.hatch((int) v[0], v[1], v[2]);
            case 14: return "" + a.changed(v[0], v[1], v[2], v[3]);
            default: return "" + a.narrow((int) v[0]);
        }
    }

    private String naiveAnswer(int call, long[] v) {
        switch (call) {
            case 0: return "" + b.plane((int) v[0], (int) v[1], (int) v[2]);
            case 1: return "" + b.corner((int) v[0], v[1], v[2]);
            case 2: return "" + b.ring((int) v[0]);
            case 3: return "" + b.obstacle((int) v[0], (int) v[1], v[2], v[3], v[4]);
            case 4: return "" + b.rule((int) v[0], v[1]);
            case 5: return "" + b.pad((int) v[0], (int) v[1], v[2], v[3], v[4], v[5]);
            case 6: return "" + b.fill();
            case 7: return "" + b.rings((int) v[0], (int) v[1]);
            case 8: return "" + b.at((int) v[0], (int) v[1], (int) v[2], (int) v[3], (int) v[4]);
            case 9: return "" + b.in((int) v[0], v[1], v[2]);
            case 10: return "" + b.islands((int) v[0]);
            case 11: return "" + b.spoke((int) v[0], (int) v[1], (int) v[2]);
            case 12: return "" + b.stitch((int) v[0], v[1]);
            case 13: return "" + b.hatch((int) v[0], v[1], v[2]);
            case 14: return "" + b.changed(v[0], v[1], v[2], v[3]);
            default: return "" + b.narrow((int) v[0]);
        }
    }

    private void both(int run, int call, long... v) {
        String got = answer(false, call, v);
        String due = answer(true, call, v);
        told.append(NAMES[call]).append(java.util.Arrays.toString(v)).append(" = ").append(due).append('\n');
        if (!got.equals(due)) {
            wrong++;
            if (wrong <= 3) {
                System.out.println("run " + run + ":\n" + told + "but PlaneFills answered " + got);
            }
        }
    }

    private static int net() {
        return random(40) == 0 ? number(0, 99) : number(0, 99) / 40;
    }

    private int planeNumber() {
        return number(0, Math.max(0, b.planes.size() - 1));
    }

    private int layer() {
        return number(0, b.layers - 1);
    }

    /** A closed ring at once, so that there is mostly something to fill. */
    private void shape(int run) {
        int plane = planeNumber();
        int corners = random(3) > 0 ? 4 : 3 + random(11);
        int x = random(20);
        int y = random(14);
        int x1 = x + 4 + random(29 - x);
        int y1 = y + 4 + random(21 - y);
        int[][] box = {{x, y}, {x1, y}, {x1, y1}, {x, y1}};
        for (int k = 0; k < corners; k++) {
            if (corners == 4) {
                both(run, 1, plane, box[k][0], box[k][1]);
            } else {
                both(run, 1, plane, random(33), random(25));
            }
        }
        both(run, 2, plane);
    }

    /** Every cell, piece and ring of the latest fill. */
    private void sweep(int run) {
        for (int plane = 0; plane < b.planes.size(); plane++) {
            for (int cell = 0; cell < 768; cell += 1 + random(7)) {
                both(run, 9, plane, cell % 32, cell / 32);
            }
            both(run, 10, plane);
            both(run, 15, plane);
            for (int piece = 0; piece <= b.planes.get(plane).pieces.size(); piece += 1 + random(3)) {
                both(run, 7, plane, piece);
                for (int ring = 0; ring < 4; ring++) {
                    both(run, 8, plane, piece, ring, random(30), random(2));
                }
            }
        }
        for (int pad = 0; pad < b.pads.size(); pad++) {
            for (int k = 0; k < 4; k++) {
                both(run, 11, pad, k, 0);
            }
        }
    }

    private void call(int run, int call) {
        int pads = Math.max(0, b.pads.size() - 1);
        switch (call) {
            case 0: both(run, call, net(), layer(), random(3) == 0 ? number(-100, 100) : number(0, 2)); break;
            case 1: both(run, call, planeNumber(), wide(0, 32), wide(0, 24)); break;
            case 3: both(run, call, net(), layer(), wide(0, 32), wide(0, 24), wide(0, random(4) == 0 ? 20 : 4)); break;
            case 4:
                int kind = number(0, 3);
                both(run, call, kind, kind == 3 ? wide(0, random(5) == 0 ? 1000 : 60) : kind == 2 ? wide(1, 5) : wide(0, 5 - (kind & 1)));
                break;
            case 5: both(run, call, net(), layer(), nearBorder(31), nearBorder(23), wide(1, 1 + random(5)), wide(1, 1 + random(5))); break;
            case 6: both(run, call); break;
            case 7: both(run, call, planeNumber(), number(0, 4)); break;
            case 8: both(run, call, planeNumber(), number(0, 2), number(0, 2), number(0, 60), number(0, 1)); break;
            case 9: both(run, call, planeNumber(), wide(0, 31), wide(0, 23)); break;
            case 11: both(run, call, number(0, pads), number(0, 3), number(0, 2)); break;
            case 12: both(run, call, net(), wide(1, 16)); break;
            case 13:
                long step = random(3) == 0 ? 0 : wide(0, random(2) == 0 ? 16 : 5);
                both(run, call, planeNumber(), step, wide(0, (int) Math.max(0, Math.min(16, step))));
                break;
            case 14:
                int x = random(32);
                int y = random(24);
                both(run, call, wide(x, x + 2), wide(y, y + 2), wide(x, 31 + 2), wide(y, 23 + 2));
                break;
            case 16: shape(run); break;
            case 17: sweep(run); break;
            default: both(run, call, planeNumber()); break;
        }
    }

    private void calls(int run) {
        int layers = number(1, 4);
        a = new PlaneFills(layers);
        b = new NaiveFills(layers);
        int total = 0;
        for (int weight : WEIGHTS) {
            total += weight;
        }
        for (int n = 0; n < CALLS; n++) {
            int pick = random(total);
            int call = 0;
            while (pick >= WEIGHTS[call]) {
                pick -= WEIGHTS[call];
                call++;
            }
            call(run, call);
        }
    }

    public static void main(String[] args) {
        for (int run = 0; run < RUNS; run++) {
            seed = run * 7919L + 17;
            new NaiveTest().calls(run);
        }
        System.out.println(wrong == 0 ? "all answers are as due" : wrong + " answers are not as due");
        if (wrong != 0) {
            System.exit(1);
        }
    }
}
