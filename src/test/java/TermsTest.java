/** The boundary cases of the document's section 'Terms', sentence by sentence. */
public final class TermsTest extends Check {
    private static PlaneFills empty() {
        PlaneFills f = new PlaneFills(1);
        f.plane(1, 0, 0);
        return f;
    }

    private static String filledBy(PlaneFills f, int plane) {
        f.fill();
        return "" + count(f, plane);
    }

    private static void layers() {
        says("on LAYERS 0 .. layers - 1, 1 to 4 (what is told below is 1, above 4)");
        int[] told = {LOW, -1, 0, 1, 2, 3, 4, 5, 6, FAR};
        int[] are = {1, 1, 1, 1, 2, 3, 4, 4, 4, 4};
        for (int k = 0; k < told.length; k++) {
            int n = are[k];
            PlaneFills f = new PlaneFills(told[k]);
            for (int layer = 0; layer < n; layer++) {
                int on = layer;
                due("plane on layer " + on + " of " + told[k], on, () -> f.plane(1, on, 0));
                due("obstacle on layer " + on + " of " + told[k], on, () -> f.obstacle(1, on, 0, 0, 0));
                due("pad on layer " + on + " of " + told[k], on, () -> f.pad(1, on, 0, 0, 1, 1));
            }
            for (int off : new int[] {LOW, -1, n, n + 1, FAR}) {
                index("plane on layer " + off + " of " + told[k], () -> f.plane(1, off, 0));
                index("obstacle on layer " + off + " of " + told[k], () -> f.obstacle(1, off, 0, 0, 0));
                index("pad on layer " + off + " of " + told[k], () -> f.pad(1, off, 0, 0, 1, 1));
            }
        }
    }

    private static void cells() {
        says("CELLS are x 0 .. 31, y 0 .. 23");
        PlaneFills f = whole();
        due("pieces of the whole board", 1, f::fill);
        due("its cells", 768, () -> count(f, 0));
        due("its first and last", "true true", () -> f.in(0, 0, 0) + " " + f.in(0, 31, 23));
        due("the last of its edge", "31,23", () -> f.at(0, 0, 0, 107, 0) + "," + f.at(0, 0, 0, 107, 1));
        PlaneFills g = empty();
        box(g, 0, 31, 23, 32, 24);
        due("the last cell alone", "1 true", () -> filledBy(g, 0) + " " + g.in(0, 31, 23));
        PlaneFills h = empty();
        box(h, 0, 0, 0, 1, 1);
        due("the first cell alone", "1 true", () -> filledBy(h, 0) + " " + h.in(0, 0, 0));
    }

    private static void corners() {
        says("Corners are points x 0 .. 32, y 0 .. 24");
        long[][] good = {{0, 0}, {32, 0}, {32, 24}, {0, 24}};
        long[][] bad = {{-1, 0}, {33, 0}, {0, -1}, {0, 25}, {-1, -1}, {33, 25}, {-1, 24}, {32, 25}};
        PlaneFills f = empty();
        for (long[] v : good) {
            due("corner " + v[0] + ", " + v[1], true, () -> f.corner(0, v[0], v[1]));
            due("place " + v[0] + ", " + v[1], true, () -> f.obstacle(0, 0, v[0], v[1], 0) >= 0);
        }
        for (long[] v : bad) {
            argument("corner " + v[0] + ", " + v[1], () -> f.corner(0, v[0], v[1]));
            argument("place " + v[0] + ", " + v[1], () -> f.obstacle(0, 0, v[0], v[1], 0));
        }
    }

    private static void middles() {
        says("a CELL's middle is half a CELL off its x and y");
        PlaneFills f = whole();
        f.rule(GAP, 0);
        f.obstacle(2, 0, 10, 10, 1);
        f.fill();
        due("four middles about a corner", "####/#..#/#..#/####", () -> picture(f, 0, 8, 8, 11, 11));
        PlaneFills g = empty();
        ringOf(g, 0, 0, 0, 3, 0, 0, 3);
        due("middles under a side", "##./#../...", () -> {
            g.fill();
            return picture(g, 0, 0, 0, 2, 2);
        });
    }

    private static void nets() {
        says("have a net (0 .. 99)");
        PlaneFills f = new PlaneFills(2);
        for (int bad : new int[] {LOW, -100, -1, 100, 101, FAR}) {
            argument("plane of net " + bad, () -> f.plane(bad, 0, 0));
            argument("obstacle of net " + bad, () -> f.obstacle(bad, 0, 0, 0, 0));
            argument("pad of net " + bad, () -> f.pad(bad, 0, 0, 0, 1, 1));
            argument("stitch of net " + bad, () -> f.stitch(bad, 1));
        }
        for (int good : new int[] {0, 99}) {
            due("plane of net " + good, true, () -> f.plane(good, 0, 0) >= 0);
            due("obstacle of net " + good, true, () -> f.obstacle(good, 1, 0, 0, 0) >= 0);
            due("pad of net " + good, true, () -> f.pad(good, 1, 0, 0, 1, 1) >= 0);
            due("stitch of net " + good, 0, () -> f.stitch(good, 1));
        }
        box(f, 0, 0, 0, 4, 4);
        box(f, 1, 0, 0, 8, 4);
        f.fill();
        due("0 and 99 are two nets", "16 12", () -> count(f, 0) + " " + count(f, 1));
    }

    private static void cornersOfRings() {
        says("RINGS of 3 to 12 corners each (at most 4)");
        PlaneFills f = empty();
        long[] zigzag = {0, 0, 32, 0, 32, 2, 2, 2, 2, 4, 32, 4, 32, 6, 2, 6, 2, 8, 32, 8, 32, 10, 0, 10};
        for (int k = 0; k < 12; k++) {
            int n = k;
            due("corner " + n, true, () -> f.corner(0, zigzag[2 * n], zigzag[2 * n + 1]));
        }
        due("a thirteenth", false, () -> f.corner(0, 16, 24));
        due("a ring of 12", true, () -> f.ring(0));
        // Bars of two rows, joined at x 0 and 1: all of ten rows but two gaps of two rows by 30.
        due("its cells", "200", () -> filledBy(f, 0));
        for (int ring = 1; ring < 4; ring++) {
            int x = 4 * ring;
            for (int k = 0; k < 3; k++) {
                int n = k;
                due("ring " + ring + ", corner " + k, true, () -> f.corner(0, n == 0 ? x : x + 2, n == 2 ? 22 : 20));
            }
            due("ring " + ring + " of 3", true, () -> f.ring(0));
        }
        due("a corner of a fifth ring", false, () -> f.corner(0, 0, 0));
        due("a fifth ring", false, () -> f.ring(0));
        // Each triangle has three of four cells: a middle on its left side is in.
        due("all four rings", "209", () -> filledBy(f, 0));
    }

    private static void oddSides() {
        says("when an odd number of sides of all RINGS cross the way from its middle to greater x");
        PlaneFills f = empty();
        int[] due = {16, 0, 16, 0};
        for (int n = 0; n < 4; n++) {
            box(f, 0, 5, 5, 9, 9);
            due("the same ring told " + (n + 1) + " times", "" + due[n], () -> filledBy(f, 0));
        }
        PlaneFills g = empty();
        box(g, 0, 0, 0, 20, 20);
        box(g, 0, 2, 2, 18, 18);
        box(g, 0, 4, 4, 16, 16);
        box(g, 0, 6, 6, 14, 14);
        due("rings in rings", "" + (400 - 256 + 144 - 64), () -> filledBy(g, 0));
    }

    private static void oneEndAbove() {
        says("those of which just one end lies above the middle (y greater)");
        PlaneFills f = empty();
        ringOf(f, 0, 0, 0, 8, 0, 8, 3, 8, 6, 0, 6, 0, 5, 0, 1);
        due("corners along upright sides", "48", () -> filledBy(f, 0));
        PlaneFills g = empty();
        ringOf(g, 0, 0, 0, 4, 3, 8, 0, 8, 6, 0, 6);
        g.fill();
        due("two sides that meet in a corner below", "#......#/##....##/###..###/########/########/########",
            () -> picture(g, 0, 0, 0, 7, 5));
        PlaneFills h = empty();
        ringOf(h, 0, 0, 0, 8, 0, 8, 4, 6, 4, 6, 2, 4, 2, 4, 4, 0, 4);
        h.fill();
        due("sides along x", "########/########/####..##/####..##/........", () -> picture(h, 0, 0, 0, 7, 4));
        PlaneFills k = empty();
        ringOf(k, 0, 0, 12, 16, 12, 32, 12);
        due("a ring of sides along x alone", "0", () -> filledBy(k, 0));
        PlaneFills m = empty();
        ringOf(m, 0, 9, 9, 9, 9, 9, 9);
        due("a ring of one point", "0", () -> filledBy(m, 0));
    }

    private static void greaterX() {
        says("and which meet the middle's height at a greater x than it");
        PlaneFills f = empty();
        ringOf(f, 0, 0, 0, 4, 4, 0, 4);
        f.fill();
        due("a right side through middles", "..../#.../##../###.", () -> picture(f, 0, 0, 0, 3, 3));
        PlaneFills g = empty();
        ringOf(g, 0, 0, 0, 4, 0, 4, 4);
        g.fill();
        due("a left side through middles", "####/.###/..##/...#", () -> picture(g, 0, 0, 0, 3, 3));
        PlaneFills h = empty();
        ringOf(h, 0, 4, 0, 4, 4, 0, 4);
        h.fill();
        due("a left side that falls through middles", "...#/..##/.###/####", () -> picture(h, 0, 0, 0, 3, 3));
        PlaneFills k = empty();
        ringOf(k, 0, 0, 0, 4, 0, 0, 4);
        k.fill();
        due("a right side that falls through middles", "###./##../#.../....", () -> picture(k, 0, 0, 0, 3, 3));
        PlaneFills m = empty();
        // The side from 32, 0 to 31, 24 meets each height just left of 32, and only below y 12 right of 31.5.
        ringOf(m, 0, 0, 0, 32, 0, 31, 24, 0, 24);
        due("a side in the last column", "" + (768 - 12), () -> filledBy(m, 0));
        due("its cells there", "true true false false",
            () -> m.in(0, 31, 0) + " " + m.in(0, 31, 11) + " " + m.in(0, 31, 12) + " " + m.in(0, 31, 23));
    }

    private static void ruleValues() {
        String[] words = {"0 GAP (0 .. 5, at first 1)", "1 MOAT (0 .. 4, at first 1)",
            "2 NECK (1 .. 5, at first 1)", "3 AREA (0 .. 1,000, at first 0)"};
        long[] first = {1, 1, 1, 0};
        long[] least = {0, 0, 1, 0};
        long[] most = {5, 4, 5, 1000};
        for (int k = 0; k < 4; k++) {
            says(words[k]);
            int kind = k;
            PlaneFills f = new PlaneFills(1);
            due("at first", false, () -> f.rule(kind, first[kind]));
            argument("below", () -> f.rule(kind, least[kind] - 1));
            argument("above", () -> f.rule(kind, most[kind] + 1));
            due("the greatest", true, () -> f.rule(kind, most[kind]));
            due("the least", true, () -> f.rule(kind, least[kind]));
        }
        says("at first 1");
        PlaneFills f = whole();
        f.pad(2, 0, 10, 10, 1, 1);
        f.pad(1, 0, 20, 10, 1, 1);
        f.obstacle(2, 0, 10, 20, 0);
        box(f, 0, 0, 0, 1, 1);
        due("the rules of a new object fill so", "" + (768 - 9 - 4 - 4 - 1), () -> filledBy(f, 0));
        due("and take neither necks nor islands", "false 0", () -> f.narrow(0) + " " + f.islands(0));
    }

    private static void ranks() {
        says("by rank, the greatest first, of one rank the lower number first");
        PlaneFills f = new PlaneFills(1);
        f.rule(GAP, 0);
        int[] ranks = {-100, 0, 100, -100, 0, 100, -99, 99};
        for (int k = 0; k < 8; k++) {
            f.plane(k, 0, ranks[k]);
            box(f, k, 0, 0, 32, 24);
        }
        due("all of the board told to all", 1, f::fill);
        due("is filled by the first of the greatest rank", "768 0", () -> count(f, 2) + " " + count(f, 5));
        int[] order = {2, 5, 7, 1, 4, 6, 0, 3};
        PlaneFills g = new PlaneFills(1);
        g.rule(GAP, 0);
        for (int k = 0; k < 8; k++) {
            g.plane(k, 0, ranks[k]);
        }
        for (int n = 0; n < 8; n++) {
            box(g, order[n], 0, 0, n + 1, 1);
        }
        g.fill();
        for (int n = 0; n < 8; n++) {
            int plane = order[n];
            String due = "........".substring(0, n) + "#" + "........".substring(n + 1);
            due("plane " + plane + " of rank " + ranks[plane], due, () -> picture(g, plane, 0, 0, 7, 0));
        }
    }

    private static void discs() {
        says("in an OBSTACLE of its layer and another net (its middle is off the disc's place by the radius and GAP at most)");
        // Reach 0 takes nothing, 1 the four about the place, 2 all of sixteen but the outmost corners.
        int[] taken = {0, 4, 12, 32, 52, 80};
        for (int gap = 0; gap <= 5; gap++) {
            for (int r = 0; r + gap <= 5; r++) {
                PlaneFills f = whole();
                f.rule(GAP, gap);
                f.obstacle(2, 0, 16, 12, r);
                due("radius " + r + ", gap " + gap, "" + (768 - taken[r + gap]), () -> filledBy(f, 0));
            }
        }
        long[][] places = {{0, 0}, {32, 0}, {0, 24}, {32, 24}};
        for (long[] v : places) {
            PlaneFills f = whole();
            f.obstacle(2, 0, v[0], v[1], 1);
            due("at the board's corner " + v[0] + ", " + v[1], "" + (768 - 3), () -> filledBy(f, 0));
        }
        PlaneFills g = whole();
        g.rule(GAP, 5);
        g.obstacle(2, 0, 16, 12, 20);
        due("the greatest covers the board", "0", () -> filledBy(g, 0));
        PlaneFills h = whole();
        h.obstacle(1, 0, 10, 10, 5);
        h.obstacle(2, 1, 10, 10, 5);
        due("of its own net, and on another layer", "768", () -> filledBy(h, 0));
    }

    private static void padsOfOthers() {
        says("nor off a CELL of a PAD of its layer and another net, .. by GAP at most along x and along y");
        for (int gap = 0; gap <= 5; gap++) {
            int off = gap;
            PlaneFills f = whole();
            f.rule(GAP, gap);
            f.pad(2, 0, 10, 10, 3, 2);
            due("gap " + gap, "" + (768 - (3 + 2 * off) * (2 + 2 * off)), () -> filledBy(f, 0));
            due("gap " + gap + ", the outmost that go and the next", "false true false true false true",
                () -> f.in(0, 10 - off, 10 - off) + " " + f.in(0, 9 - off, 10) + " " + f.in(0, 12 + off, 11 + off) + " "
                    + f.in(0, 13 + off, 11) + " " + f.in(0, 12, 11 + off) + " " + f.in(0, 12, 12 + off));
        }
        PlaneFills g = whole();
        g.rule(GAP, 5);
        g.pad(2, 0, 31, 23, 1, 1);
        g.pad(2, 0, 0, 0, 1, 1);
        due("at the borders, none comes back on the other side", "" + (768 - 72), () -> filledBy(g, 0));
        PlaneFills h = whole();
        h.rule(GAP, 5);
        h.pad(2, 1, 10, 10, 3, 2);
        due("on another layer", "768", () -> filledBy(h, 0));
    }

    private static void planesAhead() {
        says("or a CELL filled by a PLANE of its layer and another net ahead of it, by GAP at most along x and along y");
        for (int gap = 0; gap <= 5; gap++) {
            PlaneFills f = whole();
            f.rule(GAP, gap);
            f.plane(2, 0, 1);
            box(f, 1, 10, 10, 13, 12);
            due("gap " + gap, "" + (768 - (3 + 2 * gap) * (2 + 2 * gap)), () -> filledBy(f, 0));
        }
        PlaneFills g = whole();
        g.rule(GAP, 5);
        g.plane(2, 0, 1);
        box(g, 1, 31, 23, 32, 24);
        box(g, 1, 0, 0, 1, 1);
        due("at the borders, none comes back on the other side", "" + (768 - 72), () -> filledBy(g, 0));
        PlaneFills h = whole();
        h.plane(2, 0, -1);
        h.plane(1, 0, 1);
        h.plane(2, 1, 1);
        for (int k = 1; k < 4; k++) {
            box(h, k, 10, 10, 13, 12);
        }
        due("behind it, of its net, on another layer", "768", () -> filledBy(h, 0));
        PlaneFills k = whole();
        k.plane(2, 0, 1);
        box(k, 1, 10, 10, 13, 12);
        box(k, 1, 20, 10, 24, 14);
        k.rule(AREA, 7);
        due("an island of it that went", "" + (768 - 36), () -> filledBy(k, 0));
        k.rule(AREA, 0);
        k.rule(NECK, 3);
        due("a neck of it that went", "" + (768 - 36), () -> filledBy(k, 0));
        k.rule(NECK, 1);
        k.hatch(1, 16, 0);
        due("a hatching of it that left nothing", "768", () -> filledBy(k, 0));
    }

    private static void moats() {
        says("nor in the MOAT of a PAD of its layer and its net: off a CELL of it by MOAT at most along x and along y, "
            + "but none of it, and on none of its SPOKES");
        for (int moat = 0; moat <= 4; moat++) {
            int m = moat;
            PlaneFills f = whole();
            f.rule(MOAT, moat);
            f.rule(GAP, 5);
            f.pad(1, 0, 10, 10, 3, 2);
            int gone = (3 + 2 * m) * (2 + 2 * m) - 6 - 4 * m;
            due("moat " + moat, "" + (768 - gone), () -> filledBy(f, 0));
            due("moat " + moat + ", the pad itself", "###/###", () -> picture(f, 0, 10, 10, 12, 11));
            due("moat " + moat + ", beyond it", "true true true true", () -> f.in(0, 9 - m, 9) + " " + f.in(0, 13 + m, 12)
                + " " + f.in(0, 9, 9 - m) + " " + f.in(0, 13, 12 + m));
        }
        PlaneFills g = whole();
        g.rule(MOAT, 4);
        g.pad(1, 0, 31, 23, 1, 1);
        g.pad(1, 0, 0, 0, 1, 1);
        due("at the borders, none comes back on the other side", "" + (768 - 32), () -> filledBy(g, 0));
        PlaneFills h = whole();
        h.pad(1, 1, 10, 10, 3, 2);
        due("on another layer", "768", () -> filledBy(h, 0));
        PlaneFills k = whole();
        k.rule(MOAT, 4);
        k.pad(1, 0, 0, 0, 32, 24);
        due("a pad that is all of the board", "768", () -> filledBy(k, 0));
        PlaneFills n = whole();
        n.pad(1, 0, 10, 10, 1, 1);
        n.pad(1, 0, 12, 11, 1, 1);
        n.fill();
        due("a spoke of one pad in the moat of another goes", ".#.##/##.#./.#.##/##.#.", () -> picture(n, 0, 9, 9, 13, 12));
    }

    private static void cutDown() {
        says("in the row y + (h - 1) / 2 (to the right, left), or the column x + (w - 1) / 2, cut down");
        long[][] sizes = {{1, 1, 0, 0}, {2, 2, 0, 0}, {3, 3, 1, 1}, {4, 4, 1, 1}, {5, 6, 2, 2}, {6, 1, 2, 0}, {1, 8, 0, 3}};
        for (long[] v : sizes) {
            PlaneFills f = whole();
            long w = v[0];
            long h = v[1];
            f.pad(1, 0, 10, 10, w, h);
            String due = (10 + w) + "," + (10 + v[3]) + " " + (10 + v[2]) + "," + (10 + h) + " 9," + (10 + v[3]) + " "
                + (10 + v[2]) + ",9";
            due("cells beside a pad of " + w + " by " + h, due, () -> spokeCells(f, 0));
            f.fill();
            due("they are filled", "1111", () -> spokesFilled(f, 0));
            due("none else of the moat", "" + (768 - 2 * w - 2 * h), () -> "" + count(f, 0));
        }
    }

    private static void necks() {
        says("Then CELLS go that are in no square of NECK by NECK CELLS (of the board) of which all are left");
        for (int neck = 1; neck <= 5; neck++) {
            int n = neck;
            PlaneFills f = empty();
            f.rule(NECK, neck);
            box(f, 0, 10, 10, 10 + n, 10 + n);
            due("a square as wide as the neck " + n, "" + n * n, () -> filledBy(f, 0));
            PlaneFills g = empty();
            g.rule(NECK, neck);
            box(g, 0, 0, 0, 32, n - 1);
            box(g, 0, 0, 10, n - 1, 24);
            due("bars just too narrow along borders, neck " + n, "0", () -> filledBy(g, 0));
            PlaneFills h = empty();
            h.rule(NECK, neck);
            box(h, 0, 32 - n, 24 - n, 32, 24);
            due("a square in the board's corner, neck " + n, "" + n * n, () -> filledBy(h, 0));
        }
        PlaneFills k = empty();
        k.rule(NECK, 2);
        box(k, 0, 31, 0, 32, 24);
        box(k, 0, 0, 0, 1, 24);
        due("the borders' columns are no neighbours", "0", () -> filledBy(k, 0));
        PlaneFills m = empty();
        m.rule(NECK, 2);
        box(m, 0, 0, 23, 32, 24);
        box(m, 0, 0, 0, 32, 1);
        due("the borders' rows are no neighbours", "0", () -> filledBy(m, 0));
        PlaneFills q = empty();
        q.rule(NECK, 2);
        ringOf(q, 0, 0, 0, 2, 0, 2, 2, 3, 2, 3, 3, 2, 3, 2, 5, 0, 5);
        q.fill();
        due("a cell beside squares that is in none", "##./##./##./##./##.", () -> picture(q, 0, 0, 0, 2, 4));
    }

    private static void hatching() {
        says("then, when it is HATCHED, those with neither x modulo step nor y modulo step below width");
        int[][] due = {{1, 0, 0}, {1, 1, 768}, {2, 1, 768 - 16 * 12}, {16, 0, 0}, {16, 1, 768 - 30 * 22}, {16, 15, 768 - 2},
            {16, 16, 768}, {5, 4, 768 - 6 * 4}, {7, 1, 768 - 27 * 20}, {0, 0, 768}};
        for (int[] v : due) {
            PlaneFills f = whole();
            f.hatch(0, v[0], v[1]);
            due("step " + v[0] + ", width " + v[1], "" + v[2], () -> filledBy(f, 0));
        }
        PlaneFills g = whole();
        g.hatch(0, 4, 1);
        g.rule(NECK, 5);
        g.fill();
        due("behind the necks", "#####/#...#/#...#/#...#/#####", () -> picture(g, 0, 0, 0, 4, 4));
        due("no neck went", false, () -> g.narrow(0));
        PlaneFills h = empty();
        box(h, 0, 1, 1, 4, 4);
        box(h, 0, 6, 6, 13, 13);
        h.hatch(0, 4, 1);
        h.rule(AREA, 1);
        due("what it takes whole is no island", 1, h::fill);
        due("none went", 0, () -> h.islands(0));
        h.rule(AREA, 25);
        due("islands go behind it", 0, h::fill);
        due("one went", 1, () -> h.islands(0));
    }

    private static void islands() {
        says("then PIECES (CELLS beside one another along x or y, and so on) of fewer CELLS than AREA");
        long[][] rows = {{0, 2, 0}, {1, 2, 0}, {8, 2, 0}, {9, 2, 0}, {10, 1, 1}, {12, 1, 1}, {13, 0, 2}, {1000, 0, 2}};
        for (long[] v : rows) {
            PlaneFills f = empty();
            box(f, 0, 4, 4, 7, 7);
            box(f, 0, 7, 7, 11, 10);
            f.rule(AREA, v[0]);
            due("pieces, area " + v[0], v[1], f::fill);
            due("islands, area " + v[0], v[2], () -> f.islands(0));
        }
        PlaneFills g = whole();
        g.rule(AREA, 768);
        due("the board is not below its own size", 1, g::fill);
        g.rule(AREA, 769);
        due("but below one more", 0, g::fill);
        PlaneFills h = empty();
        box(h, 0, 31, 4, 32, 5);
        box(h, 0, 0, 5, 1, 6);
        box(h, 0, 31, 23, 32, 24);
        box(h, 0, 0, 0, 1, 1);
        due("ends of rows are not beside one another", 4, h::fill);
    }

    private static void islandsWithPads() {
        says("in which no CELL of a PAD of its layer and net lies: its ISLANDS");
        PlaneFills f = new PlaneFills(2);
        f.plane(1, 0, 0);
        box(f, 0, 4, 4, 7, 7);
        f.rule(GAP, 0);
        f.rule(MOAT, 0);
        f.rule(AREA, 1000);
        f.pad(1, 0, 3, 3, 1, 1);
        f.pad(1, 0, 7, 4, 1, 3);
        f.pad(1, 1, 5, 5, 1, 1);
        f.pad(2, 0, 4, 4, 1, 1);
        due("pads beside it, on another layer, of another net", 0, f::fill);
        due("went", 1, () -> f.islands(0));
        f.pad(1, 0, 6, 6, 2, 2);
        due("a pad with one cell in it", 1, f::fill);
        due("none went", 0, () -> f.islands(0));
        PlaneFills g = new PlaneFills(1);
        g.plane(1, 0, 0);
        box(g, 0, 4, 4, 7, 7);
        g.rule(AREA, 1000);
        g.pad(1, 0, 0, 0, 32, 24);
        g.obstacle(2, 0, 5, 5, 20);
        due("a pad of which nothing is left", "0 0", () -> g.fill() + " " + g.islands(0));
        long[][] cells = {{0, 0}, {31, 0}, {0, 23}, {31, 23}};
        for (long[] v : cells) {
            PlaneFills h = empty();
            box(h, 0, v[0], v[1], v[0] + 1, v[1] + 1);
            h.rule(AREA, 1000);
            due("a cell in the board's corner " + v[0] + ", " + v[1], 0, h::fill);
            h.pad(1, 0, v[0], v[1], 1, 1);
            due("a pad on it", 1, h::fill);
        }
    }

    private static void numbers() {
        says("PIECES are numbered by their first CELLS, row by row (y, then x)");
        PlaneFills f = empty();
        box(f, 0, 30, 0, 32, 2);
        box(f, 0, 0, 1, 2, 3);
        box(f, 0, 3, 0, 5, 2);
        box(f, 0, 0, 22, 2, 24);
        due("pieces", 4, f::fill);
        due("their first cells", "3,0 30,0 0,1 0,22", () -> {
            StringBuilder text = new StringBuilder();
            for (int n = 0; n < 4; n++) {
                text.append(f.at(0, n, 0, 0, 0)).append(',').append(f.at(0, n, 0, 0, 1)).append(n < 3 ? " " : "");
            }
            return text;
        });
    }

    private static void edges() {
        says("A PIECE's ring 0 are its CELLS that have one beside them (along x or y) that is not of it, or the board's border");
        PlaneFills f = empty();
        box(f, 0, 8, 8, 9, 9);
        box(f, 0, 0, 0, 3, 3);
        f.fill();
        due("a piece of one cell", "8,8", () -> ringCells(f, 0, 1, 0));
        due("a piece in the board's corner", "0,0 1,0 2,0 0,1 2,1 0,2 1,2 2,2", () -> ringCells(f, 0, 0, 0));
        PlaneFills g = whole();
        g.fill();
        due("the board's border alone", 2 * 32 + 2 * 22, () -> ringCells(g, 0, 0, 0).split(" ").length);
        PlaneFills h = empty();
        ringOf(h, 0, 5, 5, 8, 5, 8, 6, 9, 6, 9, 9, 5, 9);
        h.fill();
        due("a cell with one askew that is not of it is none", false, () -> (" " + ringCells(h, 0, 0, 0) + " ").contains(" 7,6 "));
        due("all of them", "5,5 6,5 7,5 5,6 8,6 5,7 8,7 5,8 6,8 7,8 8,8", () -> ringCells(h, 0, 0, 0));
    }

    private static void holes() {
        says("Its HOLES are CELLS of the board that are not of it, beside one another along x, y or askew, and so on, "
            + "that come to no border of the board");
        PlaneFills f = whole();
        f.rule(GAP, 0);
        f.pad(2, 0, 5, 1, 1, 1);
        f.pad(2, 0, 6, 2, 1, 1);
        f.pad(2, 0, 1, 5, 1, 1);
        f.pad(2, 0, 30, 8, 1, 1);
        f.pad(2, 0, 9, 22, 1, 1);
        f.fill();
        due("holes a cell off the borders", 5, () -> f.rings(0, 0));
        due("one of two cells askew", "5,1 6,2", () -> ringCells(f, 0, 0, 1));
        long[][] open = {{4, 0}, {0, 6}, {31, 7}, {10, 23}};
        for (int k = 0; k < 4; k++) {
            f.pad(2, 0, open[k][0], open[k][1], 1, 1);
            f.fill();
            int left = 4 - k;
            due("come to a border askew: " + (k + 1), left, () -> f.rings(0, 0));
        }
        says("numbered by their first CELLS; ring k is the HOLE k - 1");
        PlaneFills g = whole();
        g.rule(GAP, 0);
        g.pad(2, 0, 20, 4, 1, 1);
        g.pad(2, 0, 4, 4, 2, 1);
        g.pad(2, 0, 10, 3, 1, 1);
        g.fill();
        due("ring 1", "10,3", () -> ringCells(g, 0, 0, 1));
        due("ring 2", "4,4 5,4", () -> ringCells(g, 0, 0, 2));
        due("ring 3", "20,4", () -> ringCells(g, 0, 0, 3));
        index("ring 4", () -> g.at(0, 0, 4, 0, 0));
        says("CELLS of the board that are not of it");
        PlaneFills h = empty();
        box(h, 0, 1, 1, 8, 8);
        box(h, 0, 2, 2, 7, 7);
        box(h, 0, 4, 4, 5, 5);
        due("a frame and a cell in it", 2, h::fill);
        due("the frame's hole has the cell too", 25, () -> ringCells(h, 0, 0, 1).split(" ").length);
        due("what is around the cell is no hole of it", 1, () -> h.rings(0, 1));
    }

    private static void twoExceptions() {
        says("(Of two exceptions that hold IndexOutOfBoundsException is thrown.)");
        PlaneFills f = empty();
        index("plane", () -> f.plane(100, 1, 0));
        index("plane by its rank", () -> f.plane(0, -1, 101));
        index("corner", () -> f.corner(1, 33, 0));
        index("obstacle by its net", () -> f.obstacle(-1, 1, 0, 0, 0));
        index("obstacle by its place", () -> f.obstacle(0, 1, 33, 0, 0));
        index("obstacle by its radius", () -> f.obstacle(0, -1, 0, 0, 21));
        index("rule", () -> f.rule(4, 1001));
        index("rule below", () -> f.rule(-1, -1));
        index("pad by its net", () -> f.pad(100, 1, 0, 0, 1, 1));
        index("pad off the board", () -> f.pad(0, 1, 32, 0, 1, 1));
        index("pad without cells", () -> f.pad(0, -1, 0, 0, 0, 1));
        index("hatch by its step", () -> f.hatch(1, 17, 0));
        index("hatch by its width", () -> f.hatch(-1, 1, 2));
    }

    public static void main(String[] args) {
        layers();
        cells();
        corners();
        middles();
        nets();
        cornersOfRings();
        oddSides();
        oneEndAbove();
        greaterX();
        ruleValues();
        ranks();
        discs();
        padsOfOthers();
        planesAhead();
        moats();
        cutDown();
        necks();
        hatching();
        islands();
        islandsWithPads();
        numbers();
        edges();
        holes();
        twoExceptions();
        end();
    }
}
