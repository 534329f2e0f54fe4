/** Each promise of the document by itself: ordinary inputs, the edges that it names, wrong inputs. */
public final class PromiseTest extends Check {
    private static void promise1() {
        PlaneFills f = new PlaneFills(3);
        due("1 NONE", -1, () -> PlaneFills.NONE);
        due("1 no plane filled", 0, f::fill);
        index("1 no plane", () -> f.in(0, 0, 0));
        index("1 no pad", () -> f.spoke(0, 0, 1));
        due("1 none would change", true, () -> f.changed(0, 0, 31, 23));
        due("1 nothing to stitch", 0, () -> f.stitch(0, 1));
        int[] told = {LOW, -1, 0, 1, 2, 3, 4, 5, FAR};
        int[] are = {1, 1, 1, 1, 2, 3, 4, 4, 4};
        for (int k = 0; k < told.length; k++) {
            PlaneFills g = new PlaneFills(told[k]);
            int top = are[k] - 1;
            due("1 greatest layer of " + told[k], 0, () -> g.plane(0, top, 0));
            index("1 above the greatest layer of " + told[k], () -> g.plane(0, top + 1, 0));
        }
        due("1 GAP at first 1", false, () -> f.rule(GAP, 1));
        due("1 MOAT at first 1", false, () -> f.rule(MOAT, 1));
        due("1 NECK at first 1", false, () -> f.rule(NECK, 1));
        due("1 AREA at first 0", false, () -> f.rule(AREA, 0));
    }

    private static void promise2() {
        PlaneFills f = new PlaneFills(2);
        for (int bad : new int[] {LOW, -1, 2, 3, FAR}) {
            index("2 layer " + bad, () -> f.plane(0, bad, 0));
            index("2 both wrong, layer " + bad, () -> f.plane(100, bad, 101));
            index("2 both wrong, layer " + bad, () -> f.plane(-1, bad, -101));
        }
        for (int bad : new int[] {LOW, -1, 100, FAR}) {
            argument("2 net " + bad, () -> f.plane(bad, 0, 0));
        }
        for (int bad : new int[] {LOW, -101, 101, FAR}) {
            argument("2 rank " + bad, () -> f.plane(0, 0, bad));
        }
        int[][] good = {{0, 0, -100}, {99, 1, 100}, {0, 0, 0}, {0, 0, 0}, {1, 1, 1}, {1, 1, 1}, {5, 0, 5}, {6, 0, 6}};
        for (int k = 0; k < 8; k++) {
            int[] v = good[k];
            due("2 number", k, () -> f.plane(v[0], v[1], v[2]));
        }
        due("2 a ninth", -1, () -> f.plane(0, 0, 0));
        due("2 still none", -1, () -> f.plane(1, 1, 1));
        index("2 wrong layer though full", () -> f.plane(0, 2, 0));
        argument("2 wrong net though full", () -> f.plane(100, 0, 0));
        argument("2 wrong rank though full", () -> f.plane(0, 0, -101));
        index("2 the ninth is not there", () -> f.ring(8));
    }

    private static void promise3() {
        PlaneFills f = new PlaneFills(1);
        index("3 no plane yet", () -> f.corner(0, 0, 0));
        f.plane(1, 0, 0);
        for (int bad : new int[] {LOW, -1, 1, FAR}) {
            index("3 plane " + bad, () -> f.corner(bad, 0, 0));
            index("3 both wrong, plane " + bad, () -> f.corner(bad, 33, -1));
        }
        for (long bad : new long[] {LOW_LONG, -1, 33, 1L << 32, FAR_LONG}) {
            argument("3 x " + bad, () -> f.corner(0, bad, 0));
        }
        for (long bad : new long[] {LOW_LONG, -1, 25, 1L << 32, FAR_LONG}) {
            argument("3 y " + bad, () -> f.corner(0, 0, bad));
        }
        for (int k = 0; k < 12; k++) {
            long x = k % 2 == 0 ? 0 : 32;
            long y = k * 2;
            due("3 corner " + k, true, () -> f.corner(0, x, y));
        }
        due("3 a thirteenth", false, () -> f.corner(0, 32, 24));
        argument("3 a wrong thirteenth", () -> f.corner(0, 32, 25));
        for (int ring = 0; ring < 4; ring++) {
            due("3 ring " + ring, true, () -> f.ring(0));
            boolean more = ring < 3;
            due("3 corners of ring " + (ring + 1), more, () -> f.corner(0, 32, 24));
            f.corner(0, 0, 24);
            f.corner(0, 32, 0);
        }
        due("3 no fifth ring", false, () -> f.ring(0));
        argument("3 a wrong corner of a fifth ring", () -> f.corner(0, -1, 0));
        due("3 none of a refused corner", 768 / 2, () -> refusedCorner());
    }

    /** The refused thirteenth corner must not become one of the ring. */
    private static int refusedCorner() {
        PlaneFills f = new PlaneFills(1);
        f.plane(1, 0, 0);
        for (int k = 0; k < 4; k++) {
            f.corner(0, 0, 0);
        }
        for (int k = 0; k < 4; k++) {
            f.corner(0, 16, 0);
        }
        for (int k = 0; k < 3; k++) {
            f.corner(0, 16, 24);
        }
        f.corner(0, 0, 24);
        f.corner(0, 32, 12);
        f.ring(0);
        f.fill();
        return count(f, 0);
    }

    private static void promise4() {
        PlaneFills f = new PlaneFills(1);
        index("4 no plane yet", () -> f.ring(0));
        f.plane(1, 0, 0);
        for (int bad : new int[] {LOW, -1, 1, FAR}) {
            index("4 plane " + bad, () -> f.ring(bad));
        }
        due("4 no corner", false, () -> f.ring(0));
        f.corner(0, 0, 0);
        due("4 one corner", false, () -> f.ring(0));
        f.corner(0, 8, 0);
        due("4 two corners", false, () -> f.ring(0));
        f.corner(0, 8, 6);
        due("4 an open ring fills nothing", 0, f::fill);
        due("4 three corners, those that stayed", true, () -> f.ring(0));
        due("4 the new one is empty", false, () -> f.ring(0));
        due("4 a closed ring fills", 1, f::fill);
        // The side from 0, 0 to 8, 6 meets y + .5 at (y + .5) * 4 / 3.
        due("4 a triangle", ".#######/..######/...#####/.....###/......##/.......#", () -> picture(f, 0, 0, 0, 7, 5));
        box(f, 0, 0, 20, 4, 24);
        box(f, 0, 20, 20, 24, 24);
        box(f, 0, 20, 0, 24, 4);
        due("4 four rings", false, () -> f.corner(0, 0, 0));
        due("4 their pieces", 4, f::fill);
        due("4 their cells", 26 - 2 + 3 * 16, () -> count(f, 0));
    }

    private static void outlines() {
        PlaneFills f = new PlaneFills(1);
        f.plane(1, 0, 0);
        ringOf(f, 0, 0, 0, 4, 4, 0, 4);
        f.fill();
        due("8 a middle on a side to the right is out", "..../#.../##../###.", () -> picture(f, 0, 0, 0, 3, 3));
        PlaneFills g = new PlaneFills(1);
        g.plane(1, 0, 0);
        ringOf(g, 0, 0, 0, 4, 0, 4, 4);
        g.fill();
        due("8 a middle on a side to the left is in", "####/.###/..##/...#", () -> picture(g, 0, 0, 0, 3, 3));
        PlaneFills h = new PlaneFills(1);
        h.plane(1, 0, 0);
        ringOf(h, 0, 0, 0, 6, 0, 0, 6, 6, 6);
        h.fill();
        due("8 a ring that crosses itself", "#####./.###../..#.../..#.../.###../#####.", () -> picture(h, 0, 0, 0, 5, 5));
        PlaneFills r = new PlaneFills(1);
        r.plane(1, 0, 0);
        box(r, 0, 0, 0, 4, 1);
        box(r, 0, 1, 0, 8, 2);
        box(r, 0, 1, 1, 2, 2);
        r.fill();
        due("8 what lies in two rings is out", "#...####/..######", () -> picture(r, 0, 0, 0, 7, 1));
        PlaneFills k = new PlaneFills(1);
        k.plane(1, 0, 0);
        ringOf(k, 0, 0, 0, 32, 24, 16, 12);
        due("8 a ring without area fills nothing", 0, k::fill);
    }

    private static void promise5() {
        PlaneFills f = new PlaneFills(2);
        for (int bad : new int[] {LOW, -1, 2, FAR}) {
            index("5 layer " + bad, () -> f.obstacle(0, bad, 0, 0, 0));
            index("5 all wrong, layer " + bad, () -> f.obstacle(100, bad, 33, 25, 21));
        }
        for (int bad : new int[] {LOW, -1, 100, FAR}) {
            argument("5 net " + bad, () -> f.obstacle(bad, 0, 0, 0, 0));
        }
        for (long bad : new long[] {LOW_LONG, -1, 33, 1L << 32, FAR_LONG}) {
            argument("5 x " + bad, () -> f.obstacle(0, 0, bad, 0, 0));
        }
        for (long bad : new long[] {LOW_LONG, -1, 25, 1L << 32, FAR_LONG}) {
            argument("5 y " + bad, () -> f.obstacle(0, 0, 0, bad, 0));
        }
        for (long bad : new long[] {LOW_LONG, -1, 21, 1L << 32, FAR_LONG}) {
            argument("5 r " + bad, () -> f.obstacle(0, 0, 0, 0, bad));
        }
        for (int k = 0; k < 20; k++) {
            int n = k;
            due("5 number", k, () -> f.obstacle(n * 5, n % 2, n == 19 ? 32 : n, n == 19 ? 24 : n, n == 19 ? 20 : n));
        }
        due("5 a twenty-first", -1, () -> f.obstacle(0, 0, 0, 0, 0));
        index("5 a wrong layer though full", () -> f.obstacle(0, 2, 0, 0, 0));
        argument("5 a wrong radius though full", () -> f.obstacle(0, 0, 0, 0, 21));
    }

    private static void obstaclesTakenOff() {
        PlaneFills f = whole();
        f.rule(GAP, 0);
        f.obstacle(2, 0, 10, 10, 1);
        f.fill();
        due("8 a disc of radius 1", 768 - 4, () -> count(f, 0));
        f.obstacle(2, 0, 20, 10, 0);
        f.fill();
        due("8 a disc of radius 0", 768 - 4, () -> count(f, 0));
        f.rule(GAP, 1);
        f.fill();
        due("8 discs of radius 1 and 0, and gap 1", 768 - 12 - 4, () -> count(f, 0));
        due("8 round corners", "#..#/..../..../#..#", () -> picture(f, 0, 8, 8, 11, 11));
        f.obstacle(1, 0, 25, 20, 3);
        f.obstacle(2, 1, 25, 20, 3);
        f.fill();
        due("8 discs of the same net, of another layer", 768 - 12 - 4, () -> count(f, 0));
        PlaneFills g = whole();
        g.rule(GAP, 5);
        g.obstacle(2, 0, 0, 0, 20);
        g.fill();
        // 25 is the hypotenuse of 7 and 24, but middles are half off: 24.5, 4.5 is within, 24.5, 5.5 not.
        due("8 the greatest disc", "false true false true", () -> g.in(0, 24, 4) + " " + g.in(0, 24, 5) + " " + g.in(0, 4, 23) + " " + g.in(0, 10, 23));
    }

    private static void promise6() {
        PlaneFills f = new PlaneFills(1);
        for (int bad : new int[] {LOW, -1, 4, FAR}) {
            index("6 kind " + bad, () -> f.rule(bad, 1));
            index("6 both wrong, kind " + bad, () -> f.rule(bad, -1));
        }
        long[] first = {1, 1, 1, 0};
        long[] least = {0, 0, 1, 0};
        long[] most = {5, 4, 5, 1000};
        for (int k = 0; k < 4; k++) {
            int kind = k;
            due("6 as at first, " + kind, false, () -> f.rule(kind, first[kind]));
            argument("6 below, " + kind, () -> f.rule(kind, least[kind] - 1));
            argument("6 above, " + kind, () -> f.rule(kind, most[kind] + 1));
            argument("6 far below, " + kind, () -> f.rule(kind, LOW_LONG));
            argument("6 far above, " + kind, () -> f.rule(kind, FAR_LONG));
            argument("6 wrapped, " + kind, () -> f.rule(kind, (1L << 32) + 1));
            due("6 still as at first, " + kind, false, () -> f.rule(kind, first[kind]));
            due("6 the greatest, " + kind, true, () -> f.rule(kind, most[kind]));
            due("6 again, " + kind, false, () -> f.rule(kind, most[kind]));
            due("6 the least, " + kind, true, () -> f.rule(kind, least[kind]));
            due("6 the least again, " + kind, false, () -> f.rule(kind, least[kind]));
        }
        PlaneFills g = whole();
        g.obstacle(2, 0, 10, 10, 1);
        g.fill();
        g.rule(GAP, 0);
        due("6 a rule fills nothing by itself", 768 - 12, () -> count(g, 0));
    }

    private static void promise7() {
        PlaneFills f = new PlaneFills(2);
        for (int bad : new int[] {LOW, -1, 2, FAR}) {
            index("7 layer " + bad, () -> f.pad(0, bad, 0, 0, 1, 1));
            index("7 all wrong, layer " + bad, () -> f.pad(-1, bad, -1, -1, 0, 0));
        }
        for (int bad : new int[] {LOW, -1, 100, FAR}) {
            argument("7 net " + bad, () -> f.pad(bad, 0, 0, 0, 1, 1));
        }
        for (long bad : new long[] {LOW_LONG, -1, 32, 1L << 32, FAR_LONG}) {
            argument("7 x " + bad, () -> f.pad(0, 0, bad, 0, 1, 1));
        }
        for (long bad : new long[] {LOW_LONG, -1, 24, 1L << 32, FAR_LONG}) {
            argument("7 y " + bad, () -> f.pad(0, 0, 0, bad, 1, 1));
        }
        for (long bad : new long[] {LOW_LONG, -1, 0, 33, (1L << 32) + 1, FAR_LONG}) {
            argument("7 w " + bad, () -> f.pad(0, 0, 0, 0, bad, 1));
        }
        for (long bad : new long[] {LOW_LONG, -1, 0, 25, (1L << 32) + 1, FAR_LONG}) {
            argument("7 h " + bad, () -> f.pad(0, 0, 0, 0, 1, bad));
        }
        argument("7 over the right border", () -> f.pad(0, 0, 30, 0, 3, 1));
        argument("7 over the upper border", () -> f.pad(0, 0, 0, 22, 1, 3));
        argument("7 far over the right border", () -> f.pad(0, 0, 1, 0, FAR_LONG, 1));
        argument("7 far over the upper border", () -> f.pad(0, 0, 0, 1, 1, FAR_LONG));
        due("7 all of the board", 0, () -> f.pad(99, 1, 0, 0, 32, 24));
        due("7 to the corner", 1, () -> f.pad(0, 0, 30, 22, 2, 2));
        for (int k = 2; k < 10; k++) {
            due("7 number", k, () -> f.pad(3, 0, 31, 23, 1, 1));
        }
        due("7 an eleventh", -1, () -> f.pad(3, 0, 0, 0, 1, 1));
        index("7 a wrong layer though full", () -> f.pad(3, 2, 0, 0, 1, 1));
        argument("7 off the board though full", () -> f.pad(3, 0, 0, 0, 33, 1));
        index("7 the eleventh is not there", () -> f.spoke(10, 0, 1));
    }

    private static void padsTakenOff() {
        PlaneFills f = whole();
        f.pad(2, 0, 10, 10, 2, 1);
        f.fill();
        due("8 a pad of another net and gap 1", "######/#....#/#....#/#....#/######", () -> picture(f, 0, 8, 8, 13, 12));
        f.rule(GAP, 0);
        f.fill();
        due("8 a pad of another net and gap 0", "######/######/##..##/######/######", () -> picture(f, 0, 8, 8, 13, 12));
        f.pad(2, 1, 20, 10, 2, 2);
        f.pad(1, 1, 20, 15, 2, 2);
        f.fill();
        due("8 pads of another layer", 768 - 2, () -> count(f, 0));
        PlaneFills g = whole();
        g.pad(1, 0, 10, 10, 2, 4);
        g.fill();
        due("8 a moat of 1", "######/#.#..#/#.##.#/######/#.##.#/#.##.#/#.#..#/######", () -> picture(g, 0, 8, 8, 13, 15));
        g.rule(MOAT, 0);
        g.fill();
        due("8 a moat of 0", 768, () -> count(g, 0));
        g.rule(MOAT, 2);
        g.fill();
        due("8 a moat of 2", "..#.../..#.../..##../######/..##../..##../..#.../..#...", () -> picture(g, 0, 8, 8, 13, 15));
        g.pad(1, 0, 14, 10, 1, 1);
        g.fill();
        due("8 another pad's moat cuts spokes", "..#...#../..#...#../..##..###/####..#../..##..#..",
            () -> picture(g, 0, 8, 8, 16, 12));
        PlaneFills h = whole();
        h.pad(1, 0, 10, 10, 1, 1);
        h.pad(1, 0, 11, 11, 1, 1);
        h.fill();
        due("8 pads in each other's moats", ".#.#/#.#./.#.#/#.#.", () -> picture(h, 0, 9, 9, 12, 12));
    }

    private static void planesTakenOff() {
        PlaneFills f = whole();
        f.plane(2, 0, 1);
        box(f, 1, 10, 10, 14, 14);
        due("8 pieces of both", 2, f::fill);
        due("8 the greater rank is ahead", "16 732", () -> count(f, 1) + " " + count(f, 0));
        f.rule(GAP, 0);
        f.fill();
        due("8 gap 0 between planes", 752, () -> count(f, 0));
        f.rule(GAP, 5);
        f.fill();
        due("8 gap 5 between planes", 768 - 14 * 14, () -> count(f, 0));
        f.hatch(1, 4, 0);
        due("8 a plane ahead of which nothing is left", 1, f::fill);
        due("8 takes nothing off", 768, () -> count(f, 0));

        PlaneFills g = new PlaneFills(2);
        int[] nets = {1, 2, 1, 2};
        int[] layers = {0, 0, 0, 1};
        for (int k = 0; k < 4; k++) {
            g.plane(nets[k], layers[k], 7);
            box(g, k, 0, 0, 32, 24);
        }
        due("8 of one rank the lower number is ahead", 3, g::fill);
        due("8 same net, another net, same net, another layer", "768 0 768 768",
            () -> count(g, 0) + " " + count(g, 1) + " " + count(g, 2) + " " + count(g, 3));

        PlaneFills h = new PlaneFills(1);
        h.rule(GAP, 0);
        int[] ranks = {-5, 9, -5, 7};
        int[] wide = {8, 2, 16, 4};
        for (int k = 0; k < 4; k++) {
            h.plane(k, 0, ranks[k]);
            box(h, k, 0, 0, wide[k], 4);
        }
        due("8 all by their ranks", 4, h::fill);
        due("8 rank -5, the lower number", "....####........", () -> picture(h, 0, 0, 0, 15, 0));
        due("8 rank 9", "##..............", () -> picture(h, 1, 0, 0, 15, 0));
        due("8 rank -5, the greater number", "........########", () -> picture(h, 2, 0, 0, 15, 0));
        due("8 rank 7", "..##............", () -> picture(h, 3, 0, 0, 15, 0));
    }

    private static void promise8() {
        PlaneFills f = whole();
        due("8 nothing is filled ahead of it", 0, () -> count(f, 0));
        due("8 one piece", 1, f::fill);
        due("8 one piece again", 1, f::fill);
        due("8 the whole board", 768, () -> count(f, 0));
        f.plane(3, 1, 0);
        box(f, 1, 0, 0, 8, 8);
        due("8 of a plane told since nothing is filled", false, () -> f.in(1, 0, 0));
        due("8 nor did islands of it go", 0, () -> f.islands(1));
        due("8 nor necks", false, () -> f.narrow(1));
        index("8 nor has it pieces", () -> f.rings(1, 0));
        due("8 then it is filled too", 2, f::fill);
        due("8 and has cells", 64, () -> count(f, 1));

        PlaneFills g = new PlaneFills(1);
        g.plane(1, 0, 0);
        box(g, 0, 0, 0, 4, 4);
        box(g, 0, 4, 4, 8, 8);
        box(g, 0, 8, 4, 12, 8);
        due("8 cells askew are of two pieces", 2, g::fill);
        g.obstacle(2, 0, 2, 2, 20);
        due("8 what is covered has no pieces", 0, g::fill);
    }

    private static void necks() {
        PlaneFills f = new PlaneFills(1);
        f.plane(1, 0, 0);
        ringOf(f, 0, 0, 0, 4, 0, 4, 1, 6, 1, 6, 2, 4, 2, 4, 4, 0, 4);
        f.fill();
        due("8 neck 1 keeps all", "####../######/####../####..", () -> picture(f, 0, 0, 0, 5, 3));
        due("17 neck 1 takes nothing", false, () -> f.narrow(0));
        f.rule(NECK, 2);
        due("17 of the latest fill", false, () -> f.narrow(0));
        f.fill();
        due("8 neck 2 takes the arm", "####../####../####../####..", () -> picture(f, 0, 0, 0, 5, 3));
        due("17 neck 2 takes the arm", true, () -> f.narrow(0));
        f.rule(NECK, 4);
        f.fill();
        due("8 neck 4 keeps the square", 16, () -> count(f, 0));
        f.rule(NECK, 5);
        due("8 neck 5 keeps nothing", 0, f::fill);
        due("17 neck 5 takes all", true, () -> f.narrow(0));
        f.rule(NECK, 1);
        f.fill();
        due("17 nothing went any more", false, () -> f.narrow(0));

        PlaneFills g = new PlaneFills(1);
        g.plane(1, 0, 0);
        box(g, 0, 27, 19, 32, 24);
        box(g, 0, 0, 20, 4, 24);
        g.rule(NECK, 5);
        g.fill();
        due("8 squares reach to the border, and not over it", "25 true false true",
            () -> count(g, 0) + " " + g.in(0, 31, 23) + " " + g.in(0, 0, 23) + " " + g.in(0, 27, 19));

        PlaneFills h = new PlaneFills(1);
        h.plane(1, 0, 0);
        ringOf(h, 0, 2, 0, 4, 0, 4, 2, 6, 2, 6, 4, 4, 4, 4, 6, 2, 6, 2, 4, 0, 4, 0, 2, 2, 2);
        h.rule(NECK, 2);
        h.fill();
        due("8 a cross of arms as wide as the neck", 20, () -> count(h, 0));
        h.rule(NECK, 3);
        due("8 a cross of arms less wide", 0, h::fill);
    }

    private static void hatched() {
        int[][] step = {{4, 1, 336}, {16, 16, 768}, {16, 0, 0}, {5, 2, 516}, {1, 1, 768}, {1, 0, 0}, {0, 0, 768}};
        for (int[] v : step) {
            PlaneFills f = whole();
            f.hatch(0, v[0], v[1]);
            f.fill();
            due("8 hatched by " + v[0] + ", " + v[1], v[2], () -> count(f, 0));
        }
        PlaneFills f = whole();
        f.plane(1, 1, 0);
        box(f, 1, 0, 0, 32, 24);
        f.hatch(0, 3, 1);
        f.rule(NECK, 5);
        f.fill();
        due("8 hatched behind the necks", "#######/#..#..#/#..#..#/#######", () -> picture(f, 0, 0, 0, 6, 3));
        due("17 hatching takes no necks", false, () -> f.narrow(0));
        due("8 the other plane is not hatched", 768, () -> count(f, 1));
    }

    private static void promise9() {
        PlaneFills f = new PlaneFills(1);
        index("9 no plane", () -> f.rings(0, 0));
        f.plane(1, 0, 0);
        index("9 nothing filled", () -> f.rings(0, 0));
        box(f, 0, 2, 2, 12, 12);
        box(f, 0, 4, 4, 10, 10);
        box(f, 0, 6, 6, 8, 8);
        index("9 ahead of any fill", () -> f.rings(0, 0));
        due("9 a frame and a square in it", 2, f::fill);
        due("9 the frame has a hole", 2, () -> f.rings(0, 0));
        due("9 the square has none", 1, () -> f.rings(0, 1));
        for (int bad : new int[] {LOW, -1, 2, FAR}) {
            index("9 piece " + bad, () -> f.rings(0, bad));
        }
        for (int bad : new int[] {LOW, -1, 1, FAR}) {
            index("9 plane " + bad, () -> f.rings(bad, 0));
        }
        StringBuilder hole = new StringBuilder();
        for (int y = 4; y < 10; y++) {
            for (int x = 4; x < 10; x++) {
                hole.append(x).append(',').append(y).append(' ');
            }
        }
        due("10 the hole holds the other piece", hole.toString().trim(), () -> ringCells(f, 0, 0, 1));

        PlaneFills g = whole();
        g.rule(GAP, 0);
        long[][] pads = {{20, 5}, {5, 5}, {6, 6}, {10, 6}, {0, 3}, {1, 4}, {31, 7}, {9, 0}, {9, 23}, {1, 1}};
        for (long[] pad : pads) {
            g.pad(2, 0, pad[0], pad[1], 1, 1);
        }
        g.fill();
        due("9 holes that come to no border", 5, () -> g.rings(0, 0));
        due("10 a hole near the corner", "1,1", () -> ringCells(g, 0, 0, 1));
        due("10 a hole askew", "5,5 6,6", () -> ringCells(g, 0, 0, 2));
        due("10 a hole of the same row", "20,5", () -> ringCells(g, 0, 0, 3));
        due("10 a hole of a greater row", "10,6", () -> ringCells(g, 0, 0, 4));
        due("10 no fifth hole", "", () -> ringCells(g, 0, 0, 5));
        due("10 the edge behind a hole", "0,0 8,0 10,0", () -> g.at(0, 0, 0, 0, 0) + "," + g.at(0, 0, 0, 0, 1) + " "
            + g.at(0, 0, 0, 8, 0) + "," + g.at(0, 0, 0, 8, 1) + " " + g.at(0, 0, 0, 9, 0) + "," + g.at(0, 0, 0, 9, 1));
    }

    private static void pieceNumbers() {
        PlaneFills f = new PlaneFills(1);
        f.plane(1, 0, 0);
        box(f, 0, 0, 5, 4, 8);
        box(f, 0, 20, 4, 24, 8);
        box(f, 0, 10, 4, 14, 8);
        f.fill();
        due("9 pieces by y, then x", "10,4 20,4 0,5", () -> f.at(0, 0, 0, 0, 0) + "," + f.at(0, 0, 0, 0, 1) + " "
            + f.at(0, 1, 0, 0, 0) + "," + f.at(0, 1, 0, 0, 1) + " " + f.at(0, 2, 0, 0, 0) + "," + f.at(0, 2, 0, 0, 1));
        f.rule(AREA, 13);
        due("9 islands have no numbers", 2, f::fill);
        index("9 no third", () -> f.rings(0, 2));
        PlaneFills g = whole();
        PlaneFills h = whole();
        g.rule(GAP, 0);
        h.rule(GAP, 0);
        for (int k = 0; k < 10; k++) {
            g.pad(2, 0, k % 2, 2 * k + 1, 31, 1);
            h.pad(2, 0, 2 * k + 1, k % 2, 1, 23);
        }
        due("9 a piece that winds up the board", "1 1 458", () -> g.fill() + " " + g.rings(0, 0) + " " + count(g, 0));
        due("9 a piece that winds to the right", "1 1 538", () -> h.fill() + " " + h.rings(0, 0) + " " + count(h, 0));
    }

    private static void promise10() {
        PlaneFills f = new PlaneFills(1);
        index("10 no plane", () -> f.at(0, 0, 0, 0, 0));
        f.plane(1, 0, 0);
        box(f, 0, 3, 4, 6, 7);
        index("10 ahead of any fill", () -> f.at(0, 0, 0, 0, 0));
        f.fill();
        due("10 the edge of a square", "3,4 4,4 5,4 3,5 5,5 3,6 4,6 5,6", () -> ringCells(f, 0, 0, 0));
        for (int bad : new int[] {LOW, -1, 1, FAR}) {
            index("10 plane " + bad, () -> f.at(bad, 0, 0, 0, 0));
            index("10 piece " + bad, () -> f.at(0, bad, 0, 0, 0));
            index("10 ring " + bad, () -> f.at(0, 0, bad, 0, 0));
        }
        for (int bad : new int[] {LOW, -1, 8, FAR}) {
            index("10 k " + bad, () -> f.at(0, 0, 0, bad, 0));
        }
        for (int bad : new int[] {LOW, -1, 2, FAR}) {
            index("10 what " + bad, () -> f.at(0, 0, 0, 0, bad));
        }
        PlaneFills g = whole();
        g.fill();
        due("10 the board's border is an edge", "31,23", () -> g.at(0, 0, 0, 107, 0) + "," + g.at(0, 0, 0, 107, 1));
        due("10 one of the sides", "31,1 0,2", () -> g.at(0, 0, 0, 33, 0) + "," + g.at(0, 0, 0, 33, 1) + " "
            + g.at(0, 0, 0, 34, 0) + "," + g.at(0, 0, 0, 34, 1));
        index("10 no more edge", () -> g.at(0, 0, 0, 108, 0));
        g.rule(GAP, 0);
        g.pad(2, 0, 5, 5, 1, 1);
        due("10 of the latest fill", 1, () -> g.rings(0, 0));
        g.fill();
        due("10 the edge along a hole, not askew", "5,4 4,5 6,5 5,6", () -> {
            StringBuilder text = new StringBuilder();
            for (String cell : ringCells(g, 0, 0, 0).split(" ")) {
                String[] v = cell.split(",");
                int x = Integer.parseInt(v[0]);
                int y = Integer.parseInt(v[1]);
                text.append(x > 0 && x < 31 && y > 0 && y < 23 ? cell + " " : "");
            }
            return text.toString().trim();
        });
    }

    private static void promise11() {
        PlaneFills f = whole();
        f.fill();
        due("11 corners of the board", "true true true true", () -> f.in(0, 0, 0) + " " + f.in(0, 31, 0) + " " + f.in(0, 0, 23) + " " + f.in(0, 31, 23));
        for (long bad : new long[] {LOW_LONG, -1, 32, 1L << 32, FAR_LONG}) {
            due("11 x " + bad, false, () -> f.in(0, bad, 0));
        }
        for (long bad : new long[] {LOW_LONG, -1, 24, 1L << 32, FAR_LONG}) {
            due("11 y " + bad, false, () -> f.in(0, 0, bad));
        }
        for (int bad : new int[] {LOW, -1, 1, FAR}) {
            index("11 plane " + bad, () -> f.in(bad, 0, 0));
            index("11 plane " + bad + ", off the board", () -> f.in(bad, -1, 24));
        }
    }

    private static void promise12() {
        PlaneFills f = new PlaneFills(2);
        index("12 no plane", () -> f.islands(0));
        f.plane(1, 0, 0);
        box(f, 0, 2, 2, 5, 5);
        box(f, 0, 10, 10, 14, 14);
        f.rule(MOAT, 0);
        int[][] due = {{0, 0, 2}, {9, 0, 2}, {10, 1, 1}, {16, 1, 1}, {17, 2, 0}, {1000, 2, 0}};
        for (int[] v : due) {
            f.rule(AREA, v[0]);
            due("12 pieces, area " + v[0], v[2], f::fill);
            due("12 islands, area " + v[0], v[1], () -> f.islands(0));
            due("12 cells, area " + v[0], v[2] == 2 ? 25 : v[2] == 1 ? 16 : 0, () -> count(f, 0));
        }
        f.pad(1, 1, 3, 3, 1, 1);
        due("12 a pad of another layer keeps none", 0, f::fill);
        f.pad(2, 0, 0, 5, 5, 1);
        f.rule(GAP, 0);
        due("12 a pad of another net keeps none", 0, f::fill);
        f.pad(1, 0, 4, 4, 3, 1);
        due("12 islands of the latest fill", 2, () -> f.islands(0));
        due("12 a pad keeps its piece", 1, f::fill);
        due("12 the other went", "1 true false", () -> f.islands(0) + " " + f.in(0, 2, 2) + " " + f.in(0, 10, 10));
        f.rule(AREA, 0);
        f.fill();
        due("12 none went any more", 0, () -> f.islands(0));
        PlaneFills g = new PlaneFills(1);
        g.plane(1, 0, 0);
        box(g, 0, 0, 0, 3, 1);
        box(g, 0, 10, 21, 13, 24);
        g.rule(MOAT, 0);
        g.rule(AREA, 100);
        g.pad(1, 0, 3, 0, 2, 2);
        g.pad(1, 0, 9, 20, 1, 1);
        due("12 a pad beside a piece does not keep it", 0, g::fill);
        g.pad(1, 0, 2, 0, 1, 1);
        due("12 a pad in the first row keeps its piece", 1, g::fill);
        g.pad(1, 0, 12, 23, 1, 1);
        due("12 a pad in the last row keeps its piece", 2, g::fill);
        for (int bad : new int[] {LOW, -1, 1, FAR}) {
            index("12 plane " + bad, () -> f.islands(bad));
        }
    }

    private static void promise13() {
        PlaneFills f = whole();
        index("13 no pad", () -> f.spoke(0, 0, 0));
        f.pad(1, 0, 10, 10, 2, 4);
        f.pad(1, 0, 0, 0, 3, 3);
        f.pad(1, 0, 31, 23, 1, 1);
        due("13 cells beside a pad", "12,11 10,14 9,11 10,9", () -> spokeCells(f, 0));
        due("13 cells beside a pad in a corner", "3,1 1,3 -1,1 1,-1", () -> spokeCells(f, 1));
        due("13 cells beside a pad in the other corner", "32,23 31,24 30,23 31,22", () -> spokeCells(f, 2));
        due("13 not filled yet", "0000", () -> spokesFilled(f, 0));
        f.fill();
        due("13 all filled", "1111", () -> spokesFilled(f, 0));
        due("13 none off the board", "1100", () -> spokesFilled(f, 1));
        due("13 none off the board, the other corner", "0011", () -> spokesFilled(f, 2));
        f.rule(MOAT, 0);
        due("13 no cells", "0000", () -> spokesFilled(f, 0));
        due("13 cells beside it also then", "12,11 10,14 9,11 10,9", () -> spokeCells(f, 0));
        f.rule(MOAT, 4);
        due("13 by the moat now", "1111", () -> spokesFilled(f, 0));
        f.obstacle(2, 0, 16, 12, 0);
        f.fill();
        due("13 one cell of them is not filled", "0111", () -> spokesFilled(f, 0));
        f.rule(MOAT, 3);
        due("13 a shorter spoke", "1111", () -> spokesFilled(f, 0));
        long[][] cuts = {{13, 11}, {10, 15}, {8, 11}, {10, 8}, {14, 11}, {10, 16}, {7, 11}, {10, 7}};
        String[] left = {"0111", "1011", "1101", "1110", "0111", "1011", "1101", "1110"};
        for (int k = 0; k < cuts.length; k++) {
            PlaneFills g = whole();
            g.rule(GAP, 0);
            g.rule(MOAT, 3);
            g.pad(1, 0, 10, 10, 2, 4);
            g.pad(2, 0, cuts[k][0], cuts[k][1], 1, 1);
            g.fill();
            due("13 cut " + k, left[k], () -> spokesFilled(g, 0));
        }
        for (int bad : new int[] {LOW, -1, 3, FAR}) {
            index("13 pad " + bad, () -> f.spoke(bad, 0, 0));
            index("13 what " + bad, () -> f.spoke(0, 0, bad));
        }
        for (int bad : new int[] {LOW, -1, 4, FAR}) {
            index("13 spoke " + bad, () -> f.spoke(0, bad, 0));
            index("13 spoke " + bad + ", x", () -> f.spoke(0, bad, 1));
        }
    }

    private static void spokesOfPlanes() {
        PlaneFills f = new PlaneFills(2);
        f.plane(1, 0, 0);
        box(f, 0, 0, 0, 12, 24);
        f.plane(1, 0, 0);
        box(f, 1, 12, 0, 32, 24);
        f.plane(1, 1, 0);
        box(f, 2, 0, 0, 32, 24);
        f.pad(1, 0, 10, 10, 1, 1);
        f.pad(2, 1, 20, 20, 1, 1);
        f.rule(MOAT, 3);
        f.rule(GAP, 0);
        f.fill();
        due("13 two planes of the net together", "1111", () -> spokesFilled(f, 0));
        due("13 planes of another net", "0000", () -> spokesFilled(f, 1));
        PlaneFills g = new PlaneFills(2);
        g.plane(1, 1, 0);
        box(g, 0, 0, 0, 32, 24);
        g.pad(1, 0, 10, 10, 1, 1);
        g.fill();
        due("13 planes of another layer", "0000", () -> spokesFilled(g, 0));
        PlaneFills h = whole();
        h.pad(1, 0, 1, 1, 1, 1);
        h.rule(MOAT, 3);
        h.fill();
        due("13 only the cells on the board", "1111", () -> spokesFilled(h, 0));
    }

    private static void promise14() {
        PlaneFills f = new PlaneFills(4);
        due("14 nothing", 0, () -> f.stitch(1, 1));
        f.plane(1, 0, 0);
        box(f, 0, 4, 4, 8, 8);
        f.plane(1, 0, 0);
        box(f, 1, 4, 4, 8, 8);
        f.fill();
        due("14 twice on one layer", 0, () -> f.stitch(1, 1));
        f.plane(1, 3, 0);
        box(f, 2, 4, 4, 9, 8);
        due("14 of the latest fill", 0, () -> f.stitch(1, 1));
        f.fill();
        due("14 step 1", 16, () -> f.stitch(1, 1));
        due("14 step 2", 4, () -> f.stitch(1, 2));
        due("14 step 3", 1, () -> f.stitch(1, 3));
        due("14 step 7", 1, () -> f.stitch(1, 7));
        due("14 step 8", 0, () -> f.stitch(1, 8));
        due("14 step 16", 0, () -> f.stitch(1, 16));
        due("14 another net", 0, () -> f.stitch(2, 1));
        f.plane(1, 1, 0);
        box(f, 3, 4, 4, 9, 8);
        f.plane(2, 2, 0);
        box(f, 4, 0, 0, 32, 24);
        f.fill();
        due("14 three layers", 20, () -> f.stitch(1, 1));
        due("14 one layer of the other net", 0, () -> f.stitch(2, 1));
        f.plane(2, 3, -1);
        box(f, 5, 0, 0, 32, 24);
        f.fill();
        due("14 both nets", 768 - 7 * 6, () -> f.stitch(2, 1));
        due("14 step 16 from the first cell on", 4, () -> f.stitch(2, 16));
        for (int bad : new int[] {LOW, -1, 100, FAR}) {
            argument("14 net " + bad, () -> f.stitch(bad, 1));
        }
        for (long bad : new long[] {LOW_LONG, -1, 0, 17, 1L << 32, (1L << 32) + 1, FAR_LONG}) {
            argument("14 step " + bad, () -> f.stitch(1, bad));
        }
        due("14 net 0 and 99", "0 0", () -> f.stitch(0, 1) + " " + f.stitch(99, 1));
    }

    private static void promise15() {
        PlaneFills f = new PlaneFills(1);
        index("15 no plane", () -> f.hatch(0, 0, 0));
        f.plane(1, 0, 0);
        box(f, 0, 0, 0, 32, 24);
        due("15 not hatched at first", false, () -> f.hatch(0, 0, 0));
        due("15 hatched", true, () -> f.hatch(0, 4, 1));
        due("15 again", false, () -> f.hatch(0, 4, 1));
        due("15 another width", true, () -> f.hatch(0, 4, 2));
        due("15 another step", true, () -> f.hatch(0, 5, 2));
        for (long bad : new long[] {LOW_LONG, -1, 17, (1L << 32) + 5, FAR_LONG}) {
            argument("15 step " + bad, () -> f.hatch(0, bad, 0));
        }
        for (long bad : new long[] {LOW_LONG, -1, 6, (1L << 32) + 2, FAR_LONG}) {
            argument("15 width " + bad, () -> f.hatch(0, 5, bad));
        }
        argument("15 step 0 with a width", () -> f.hatch(0, 0, 1));
        for (int bad : new int[] {LOW, -1, 1, FAR}) {
            index("15 plane " + bad, () -> f.hatch(bad, 4, 1));
            index("15 both wrong, plane " + bad, () -> f.hatch(bad, 17, 18));
        }
        due("15 as before all that was wrong", false, () -> f.hatch(0, 5, 2));
        due("15 the greatest", true, () -> f.hatch(0, 16, 16));
        f.fill();
        due("15 the greatest takes nothing", 768, () -> count(f, 0));
        due("15 width 0", true, () -> f.hatch(0, 16, 0));
        due("15 is for later fills", 768, () -> count(f, 0));
        f.fill();
        due("15 width 0 takes all", 0, () -> count(f, 0));
        due("15 not any more", true, () -> f.hatch(0, 0, 0));
        f.fill();
        due("15 all is back", 768, () -> count(f, 0));
    }

    private static void promise16() {
        PlaneFills f = whole();
        due("16 ahead of any fill", false, () -> f.changed(0, 0, 31, 23));
        due("16 fills nothing", 0, () -> count(f, 0));
        due("16 still so", false, () -> f.changed(31, 23, 31, 23));
        f.fill();
        due("16 as filled", true, () -> f.changed(LOW_LONG, LOW_LONG, FAR_LONG, FAR_LONG));
        f.obstacle(2, 0, 10, 10, 1);
        long[][] same = {{0, 0, 7, 23}, {12, 0, 31, 23}, {0, 0, 31, 7}, {0, 12, 31, 23}, {8, 8, 8, 8}, {12, 12, 3, 3},
            {12, 3, 3, 12}, {3, 12, 12, 3}, {32, 24, FAR_LONG, FAR_LONG}, {LOW_LONG, LOW_LONG, -1, -1},
            {FAR_LONG, FAR_LONG, LOW_LONG, LOW_LONG}, {32, 0, FAR_LONG, 23}, {0, 24, 31, FAR_LONG},
            {LOW_LONG, 0, -1, 23}, {0, LOW_LONG, 31, -1}, {0, 1L << 32, 31, FAR_LONG}, {1L << 32, 0, FAR_LONG, 23}};
        for (long[] v : same) {
            due("16 not there " + java.util.Arrays.toString(v), true, () -> f.changed(v[0], v[1], v[2], v[3]));
        }
        long[][] other = {{0, 0, 31, 23}, {9, 8, 9, 8}, {11, 9, 11, 9}, {0, 0, 8, 9}, {11, 10, 31, 23},
            {LOW_LONG, LOW_LONG, FAR_LONG, FAR_LONG}, {10, 11, FAR_LONG, FAR_LONG}, {LOW_LONG, LOW_LONG, 9, 8}};
        for (long[] v : other) {
            due("16 there " + java.util.Arrays.toString(v), false, () -> f.changed(v[0], v[1], v[2], v[3]));
        }
        due("16 the latest fill stays", "768 1", () -> count(f, 0) + " " + f.rings(0, 0));
        f.rule(NECK, 3);
        f.rule(AREA, 1000);
        due("16 necks and islands too", false, () -> f.changed(0, 0, 0, 0));
        due("16 and of those nothing went yet", "0 false", () -> f.islands(0) + " " + f.narrow(0));
        f.rule(AREA, 0);
        f.fill();
        due("16 as filled then", true, () -> f.changed(0, 0, 31, 23));
        f.plane(1, 0, 0);
        due("16 a plane without a ring", true, () -> f.changed(0, 0, 31, 23));
        box(f, 1, 0, 0, 4, 4);
        due("16 each plane for itself", false, () -> f.changed(0, 0, 3, 3));
        due("16 but not beside it", true, () -> f.changed(4, 0, 31, 23));
        due("16 nor above", true, () -> f.changed(0, 4, 31, 23));
    }

    private static void promise17() {
        PlaneFills f = new PlaneFills(1);
        index("17 no plane", () -> f.narrow(0));
        f.plane(1, 0, 0);
        f.plane(2, 0, 0);
        due("17 nothing filled", false, () -> f.narrow(0));
        box(f, 0, 0, 0, 3, 3);
        box(f, 1, 10, 10, 12, 13);
        f.rule(NECK, 3);
        f.fill();
        due("17 of each plane", "false true", () -> f.narrow(0) + " " + f.narrow(1));
        f.rule(NECK, 1);
        f.rule(AREA, 10);
        f.fill();
        due("17 islands are no necks", "false false", () -> f.narrow(0) + " " + f.narrow(1));
        for (int bad : new int[] {LOW, -1, 2, FAR}) {
            index("17 plane " + bad, () -> f.narrow(bad));
        }
    }

    public static void main(String[] args) {
        promise1();
        promise2();
        promise3();
        promise4();
        outlines();
        promise5();
        obstaclesTakenOff();
        promise6();
        promise7();
        padsTakenOff();
        planesTakenOff();
        promise8();
        necks();
        hatched();
        promise9();
        pieceNumbers();
        promise10();
        promise11();
        promise12();
        promise13();
        spokesOfPlanes();
        promise14();
        promise15();
        promise16();
        promise17();
        end();
    }
}
