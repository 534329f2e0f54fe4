/** The boundary cases of the promises, sentence by sentence: too small, too large, empty, full, refused. */
public final class BoundaryTest extends Check {
    private static final int[] FAR_OFF = {LOW, LOW + 1, -1, 8, FAR - 1, FAR};

    private static PlaneFills empty() {
        PlaneFills f = new PlaneFills(1);
        f.plane(1, 0, 0);
        return f;
    }

    private static String filled(PlaneFills f, int plane) {
        f.fill();
        return "" + count(f, plane);
    }

    private static void newObject() {
        says("Nothing is there, nothing filled.");
        PlaneFills f = new PlaneFills(4);
        due("fill", 0, f::fill);
        due("changed", true, () -> f.changed(0, 0, 31, 23));
        due("stitch", 0, () -> f.stitch(0, 1));
        index("corner", () -> f.corner(0, 0, 0));
        index("ring", () -> f.ring(0));
        index("rings", () -> f.rings(0, 0));
        index("at", () -> f.at(0, 0, 0, 0, 0));
        index("in", () -> f.in(0, 0, 0));
        index("islands", () -> f.islands(0));
        index("spoke", () -> f.spoke(0, 0, 0));
        index("hatch", () -> f.hatch(0, 0, 0));
        index("narrow", () -> f.narrow(0));
        due("the first plane", 0, () -> f.plane(0, 0, 0));
        due("the first obstacle", 0, () -> f.obstacle(0, 0, 0, 0, 0));
        due("the first pad", 0, () -> f.pad(0, 0, 0, 0, 1, 1));
        due("a new plane has no ring", 0, f::fill);
        due("nor a corner", false, () -> f.ring(0));
        PlaneFills g = new PlaneFills(4);
        index("another object has none of them", () -> g.ring(0));
        due("and counts for itself", 0, () -> g.plane(0, 0, 0));
    }

    private static void ninthPlane() {
        says("A new PLANE: its number; NONE when there are 8.");
        PlaneFills f = new PlaneFills(1);
        for (int k = 0; k < 8; k++) {
            int n = k;
            due("plane", n, () -> f.plane(n, 0, n));
        }
        due("a ninth", PlaneFills.NONE, () -> f.plane(9, 0, 100));
        due("a tenth", PlaneFills.NONE, () -> f.plane(9, 0, -100));
        due("the last is there", false, () -> f.ring(7));
        index("the ninth is not", () -> f.ring(8));
        box(f, 7, 0, 0, 32, 24);
        due("nor is it filled", "1 768", () -> f.fill() + " " + count(f, 7));
    }

    private static void refusedPlanes() {
        says("IndexOutOfBoundsException, when there is no such layer; IllegalArgumentException, when it is no net, "
            + "or the rank not -100 .. 100.");
        PlaneFills f = new PlaneFills(2);
        for (int layer : new int[] {LOW, -1, 2, 4, FAR}) {
            index("layer " + layer, () -> f.plane(0, layer, 0));
        }
        for (int net : new int[] {LOW, -1, 100, FAR}) {
            argument("net " + net, () -> f.plane(net, 0, 0));
        }
        for (int rank : new int[] {LOW, -101, 101, FAR}) {
            argument("rank " + rank, () -> f.plane(0, 0, rank));
        }
        due("refused ones have no numbers", 0, () -> f.plane(0, 0, -100));
        due("the greatest rank", 1, () -> f.plane(99, 1, 100));
        index("no more are there", () -> f.in(2, 0, 0));
    }

    private static void cornersTooMany() {
        says("One more corner of a PLANE's open RING: true; false, when it has 12, or there are 4 RINGS.");
        PlaneFills f = empty();
        long[] steps = {0, 0, 12, 0, 12, 2, 10, 2, 10, 4, 8, 4, 8, 6, 6, 6, 6, 8, 4, 8, 4, 10, 0, 10};
        for (int k = 0; k < 12; k++) {
            int n = k;
            due("corner " + (n + 1), true, () -> f.corner(0, steps[2 * n], steps[2 * n + 1]));
        }
        due("corner 13", false, () -> f.corner(0, 32, 24));
        due("corner 14", false, () -> f.corner(0, 0, 24));
        f.ring(0);
        due("refused ones are not of the ring", "" + 2 * (12 + 10 + 8 + 6 + 4), () -> filled(f, 0));
        due("the new ring has room", true, () -> f.corner(0, 20, 20));
        f.corner(0, 22, 20);
        f.corner(0, 22, 22);
        f.corner(0, 20, 22);
        due("ring 2", true, () -> f.ring(0));
        box(f, 0, 24, 20, 26, 22);
        due("the first corner of ring 4", true, () -> f.corner(0, 28, 20));
        f.corner(0, 30, 20);
        f.corner(0, 30, 22);
        f.corner(0, 28, 22);
        due("ring 4", true, () -> f.ring(0));
        due("a corner of ring 5", false, () -> f.corner(0, 0, 20));
        f.corner(0, 4, 20);
        f.corner(0, 4, 24);
        due("ring 5", false, () -> f.ring(0));
        due("four rings are filled", "" + (80 + 12), () -> filled(f, 0));
        f.plane(1, 0, 0);
        due("another plane has room", true, () -> f.corner(1, 0, 0));
    }

    private static void refusedCorners() {
        says("IndexOutOfBoundsException, when there is no such PLANE; IllegalArgumentException, when it is no corner.");
        PlaneFills f = empty();
        for (int plane : FAR_OFF) {
            index("plane " + plane, () -> f.corner(plane, 0, 0));
        }
        index("plane 1", () -> f.corner(1, 0, 0));
        f.corner(0, 0, 0);
        f.corner(0, 32, 0);
        for (long x : new long[] {LOW_LONG, LOW, -1, 33, FAR, 1L << 32, FAR_LONG}) {
            argument("x " + x, () -> f.corner(0, x, 0));
        }
        for (long y : new long[] {LOW_LONG, LOW, -1, 25, FAR, 1L << 32, FAR_LONG}) {
            argument("y " + y, () -> f.corner(0, 0, y));
        }
        due("refused ones are not of the ring", false, () -> f.ring(0));
        f.corner(0, 32, 24);
        due("three are", true, () -> f.ring(0));
        for (int k = 0; k < 12; k++) {
            f.corner(0, 0, 0);
        }
        argument("no corner, though there is no room", () -> f.corner(0, 33, 0));
    }

    private static void rings() {
        says("The open RING is closed, a new one is open: true; false, when it has fewer than 3 corners (it stays open).");
        PlaneFills f = empty();
        due("no corner", false, () -> f.ring(0));
        f.corner(0, 0, 0);
        due("1 corner", false, () -> f.ring(0));
        f.corner(0, 4, 0);
        due("2 corners", false, () -> f.ring(0));
        due("2 corners again", false, () -> f.ring(0));
        f.corner(0, 4, 4);
        f.corner(0, 0, 4);
        due("4 corners", true, () -> f.ring(0));
        due("those told ahead of refusals are of it", "16", () -> filled(f, 0));
        due("the new one has no corner", false, () -> f.ring(0));
        f.corner(0, 10, 10);
        f.corner(0, 12, 10);
        due("the new one has 2 corners", false, () -> f.ring(0));
        f.corner(0, 12, 12);
        due("the new one has 3 corners", true, () -> f.ring(0));
        due("both are of the outline", "19", () -> filled(f, 0));

        says("(Open RINGS are not of the outline.)");
        PlaneFills g = empty();
        g.corner(0, 0, 0);
        g.corner(0, 4, 0);
        g.corner(0, 4, 4);
        g.corner(0, 0, 4);
        due("fill", 0, g::fill);
        due("changed", true, () -> g.changed(0, 0, 31, 23));
        g.ring(0);
        due("nor is one closed since the latest fill filled", "0 false", () -> count(g, 0) + " " + g.changed(0, 0, 31, 23));

        says("IndexOutOfBoundsException likewise.");
        for (int plane : FAR_OFF) {
            index("ring of plane " + plane, () -> f.ring(plane));
        }
        index("ring of plane 1", () -> f.ring(1));
    }

    private static void obstacles() {
        says("A new OBSTACLE with its place at a corner: its number; NONE when there are 20.");
        PlaneFills f = whole();
        f.rule(GAP, 0);
        for (int k = 0; k < 20; k++) {
            int n = k;
            due("obstacle", n, () -> f.obstacle(2, 0, 1 + n % 8 * 4, 1 + n / 8 * 4, 1));
        }
        due("the 21st", PlaneFills.NONE, () -> f.obstacle(2, 0, 16, 20, 2));
        due("the 22nd", PlaneFills.NONE, () -> f.obstacle(3, 0, 16, 20, 20));
        due("20 take cells off, refused ones none", "" + (768 - 80), () -> filled(f, 0));

        says("IndexOutOfBoundsException, when there is no such layer; IllegalArgumentException, when it is no net, "
            + "or corner, or r not 0 .. 20.");
        PlaneFills g = whole();
        g.rule(GAP, 0);
        for (int layer : new int[] {LOW, -1, 2, 4, FAR}) {
            index("layer " + layer, () -> g.obstacle(2, layer, 16, 12, 1));
        }
        for (int net : new int[] {LOW, -1, 100, FAR}) {
            argument("net " + net, () -> g.obstacle(net, 0, 16, 12, 1));
        }
        for (long x : new long[] {LOW_LONG, LOW, -1, 33, FAR, (1L << 32) + 16, FAR_LONG}) {
            argument("x " + x, () -> g.obstacle(2, 0, x, 12, 1));
        }
        for (long y : new long[] {LOW_LONG, LOW, -1, 25, FAR, (1L << 32) + 12, FAR_LONG}) {
            argument("y " + y, () -> g.obstacle(2, 0, 16, y, 1));
        }
        for (long r : new long[] {LOW_LONG, LOW, -1, 21, FAR, (1L << 32) + 1, FAR_LONG}) {
            argument("r " + r, () -> g.obstacle(2, 0, 16, 12, r));
        }
        due("refused ones take nothing off", "768", () -> filled(g, 0));
        due("nor have they numbers", 0, () -> g.obstacle(2, 0, 32, 24, 0));
        due("the least radius takes nothing off", "768", () -> filled(g, 0));
        due("the greatest radius", 1, () -> g.obstacle(2, 0, 0, 0, 20));
        // x + .5 and y + .5 off by 20 at most: of the rows 0 and 19 the first 20 and 4 cells go, of row 20 none.
        g.fill();
        due("takes off what it reaches", "false true false true true",
            () -> g.in(0, 19, 0) + " " + g.in(0, 20, 0) + " " + g.in(0, 3, 19) + " " + g.in(0, 4, 19) + " " + g.in(0, 0, 20));
    }

    private static void rules() {
        says("A RULE: whether it was another one.");
        PlaneFills f = new PlaneFills(1);
        long[] first = {1, 1, 1, 0};
        long[] other = {0, 4, 5, 1000};
        for (int k = 0; k < 4; k++) {
            int kind = k;
            due("the same, " + kind, false, () -> f.rule(kind, first[kind]));
            due("another, " + kind, true, () -> f.rule(kind, other[kind]));
            due("the same again, " + kind, false, () -> f.rule(kind, other[kind]));
        }
        due("none is another's", "false false false false",
            () -> f.rule(0, 0) + " " + f.rule(1, 4) + " " + f.rule(2, 5) + " " + f.rule(3, 1000));

        says("IndexOutOfBoundsException, when there is no such kind; IllegalArgumentException, when v is not so.");
        PlaneFills g = new PlaneFills(1);
        for (int kind : new int[] {LOW, -1, 4, 5, FAR}) {
            index("kind " + kind, () -> g.rule(kind, 1));
        }
        long[] least = {0, 0, 1, 0};
        long[] most = {5, 4, 5, 1000};
        for (int k = 0; k < 4; k++) {
            int kind = k;
            for (long v : new long[] {LOW_LONG, LOW, least[k] - 1, most[k] + 1, FAR, (1L << 32) + 1, FAR_LONG}) {
                argument("v " + v + " of " + kind, () -> g.rule(kind, v));
            }
            due("a refused one changes none, " + kind, false, () -> g.rule(kind, first[kind]));
        }
    }

    private static void pads() {
        says("A new PAD from CELL x, y on, w by h: its number; NONE when there are 10.");
        PlaneFills f = whole();
        f.rule(GAP, 0);
        for (int k = 0; k < 10; k++) {
            int n = k;
            due("pad", n, () -> f.pad(2, 0, 3 * n, n, 2, 3));
        }
        due("the eleventh", PlaneFills.NONE, () -> f.pad(2, 0, 0, 20, 2, 2));
        due("the twelfth", PlaneFills.NONE, () -> f.pad(1, 0, 0, 20, 2, 2));
        due("10 take cells off, refused ones none", "" + (768 - 60), () -> filled(f, 0));
        due("the tenth", "27,9 to 28,11", () -> f.spoke(9, 2, 1) + 1 + "," + (f.spoke(9, 3, 2) + 1) + " to "
            + (f.spoke(9, 0, 1) - 1) + "," + (f.spoke(9, 1, 2) - 1));
        index("no eleventh", () -> f.spoke(10, 0, 1));

        says("IndexOutOfBoundsException, when there is no such layer; IllegalArgumentException, when it is no net, "
            + "or does not lie on the board (w and h at least 1).");
        PlaneFills g = whole();
        for (int layer : new int[] {LOW, -1, 2, 4, FAR}) {
            index("layer " + layer, () -> g.pad(2, layer, 4, 4, 1, 1));
        }
        for (int net : new int[] {LOW, -1, 100, FAR}) {
            argument("net " + net, () -> g.pad(net, 0, 4, 4, 1, 1));
        }
        long[][] off = {{-1, 0, 1, 1}, {0, -1, 1, 1}, {32, 0, 1, 1}, {0, 24, 1, 1}, {0, 0, 0, 1}, {0, 0, 1, 0}, {0, 0, 33, 1},
            {0, 0, 1, 25}, {31, 0, 2, 1}, {0, 23, 1, 2}, {1, 0, 32, 1}, {0, 1, 1, 24}, {-1, 0, 2, 1}, {0, -1, 1, 2},
            {0, 0, -1, 1}, {0, 0, 1, -1}, {5, 5, -1, 1}, {5, 5, 1, -1}, {32, 0, 0, 1}, {0, 24, 1, 0},
            {LOW_LONG, 0, 1, 1}, {0, LOW_LONG, 1, 1}, {FAR_LONG, 0, 1, 1}, {0, FAR_LONG, 1, 1}, {1, 0, FAR_LONG, 1},
            {0, 1, 1, FAR_LONG}, {FAR_LONG, 0, FAR_LONG, 1}, {0, FAR_LONG, 1, FAR_LONG}, {LOW_LONG, 0, LOW_LONG, 1},
            {0, LOW_LONG, 1, LOW_LONG}, {0, 0, LOW_LONG, 1}, {0, 0, 1, LOW_LONG}, {LOW_LONG, 0, FAR_LONG, 1},
            {-FAR_LONG, 0, FAR_LONG, 1}, {1L << 32, 0, 1, 1}, {0, 1L << 32, 1, 1}, {0, 0, (1L << 32) + 1, 1},
            {0, 0, 1, (1L << 32) + 1}};
        for (long[] v : off) {
            argument("pad " + v[0] + ", " + v[1] + ", " + v[2] + ", " + v[3], () -> g.pad(2, 0, v[0], v[1], v[2], v[3]));
        }
        due("refused ones take nothing off", "768", () -> filled(g, 0));
        long[][] on = {{0, 0, 32, 24}, {31, 23, 1, 1}, {0, 0, 1, 1}, {31, 0, 1, 24}, {0, 23, 32, 1}};
        for (int k = 0; k < on.length; k++) {
            long[] v = on[k];
            due("on the board to its borders", k, () -> g.pad(3, 1, v[0], v[1], v[2], v[3]));
        }
    }

    private static void fills() {
        says("Fills all PLANES: how many PIECES in all.");
        PlaneFills f = new PlaneFills(4);
        due("no plane", 0, f::fill);
        for (int k = 0; k < 8; k++) {
            f.plane(k / 4, k % 4, 0);
        }
        due("planes without rings", 0, f::fill);
        for (int k = 0; k < 8; k++) {
            box(f, k, k < 4 ? 0 : 16, 0, k < 4 ? 10 : 26, 4);
            box(f, k, k < 4 ? 0 : 16, 6, k < 4 ? 10 : 26, 10);
        }
        due("eight planes of two pieces", 16, f::fill);
        due("as often as it is called", 16, f::fill);
        f.rule(AREA, 41);
        due("islands are none", 0, f::fill);

        says("(All below tells of the latest fill(); of PLANES told since: nothing is filled.)");
        PlaneFills g = whole();
        g.fill();
        g.rule(GAP, 0);
        g.rule(NECK, 5);
        g.rule(AREA, 1000);
        g.pad(2, 0, 10, 10, 1, 1);
        g.hatch(0, 4, 1);
        g.plane(1, 1, 0);
        box(g, 1, 0, 0, 32, 24);
        due("in", 768, () -> count(g, 0));
        due("rings", 1, () -> g.rings(0, 0));
        due("at", "31", () -> "" + g.at(0, 0, 0, 31, 0));
        due("islands", 0, () -> g.islands(0));
        due("narrow", false, () -> g.narrow(0));
        due("stitch", 0, () -> g.stitch(1, 1));
        due("in, of a plane told since", 0, () -> count(g, 1));
        index("rings, of a plane told since", () -> g.rings(1, 0));
        index("at, of a plane told since", () -> g.at(1, 0, 0, 0, 0));
        due("islands, of a plane told since", 0, () -> g.islands(1));
        due("narrow, of a plane told since", false, () -> g.narrow(1));
        g.pad(1, 1, 4, 4, 1, 1);
        due("spoke, of a plane told since", "0000", () -> spokesFilled(g, 1));
    }

    private static void ringCounts() {
        says("How many rings a PIECE has: 1 and its HOLES.");
        PlaneFills f = empty();
        box(f, 0, 0, 0, 1, 1);
        f.fill();
        due("a piece of one cell", 1, () -> f.rings(0, 0));
        PlaneFills g = whole();
        g.hatch(0, 2, 1);
        g.fill();
        // The cells with odd x and y go: those of x 31 or y 23 lie on the border.
        due("as many holes as a hatching leaves", 1 + 15 * 11, () -> g.rings(0, 0));
        due("the last of them", "29,21", () -> ringCells(g, 0, 0, 165));
        index("none behind it", () -> g.at(0, 0, 166, 0, 0));

        says("IndexOutOfBoundsException, when there is no such PLANE, or PIECE.");
        for (int bad : FAR_OFF) {
            index("plane " + bad, () -> f.rings(bad, 0));
            index("piece " + bad, () -> f.rings(0, bad));
        }
        index("plane 1", () -> f.rings(1, 0));
        index("piece 1", () -> f.rings(0, 1));
        f.rule(AREA, 2);
        f.fill();
        index("an island is none", () -> f.rings(0, 0));
        PlaneFills h = empty();
        box(h, 0, 0, 0, 1, 1);
        index("ahead of any fill", () -> h.rings(0, 0));
    }

    private static void ringCellNumbers() {
        says("Of a ring's k-th CELL, row by row, x (what 0) or y (1). IndexOutOfBoundsException, when there is none such, or what.");
        PlaneFills f = empty();
        box(f, 0, 1, 1, 6, 6);
        box(f, 0, 3, 2, 5, 4);
        box(f, 0, 30, 22, 32, 24);
        f.fill();
        due("the first of the edge", "1,1", () -> f.at(0, 0, 0, 0, 0) + "," + f.at(0, 0, 0, 0, 1));
        due("the last of the edge", "5,5", () -> f.at(0, 0, 0, 19, 0) + "," + f.at(0, 0, 0, 19, 1));
        index("one behind the edge", () -> f.at(0, 0, 0, 20, 0));
        due("the first of the hole", "3,2", () -> f.at(0, 0, 1, 0, 0) + "," + f.at(0, 0, 1, 0, 1));
        due("the last of the hole", "4,3", () -> f.at(0, 0, 1, 3, 0) + "," + f.at(0, 0, 1, 3, 1));
        index("one behind the hole", () -> f.at(0, 0, 1, 4, 1));
        index("no second hole", () -> f.at(0, 0, 2, 0, 0));
        due("the last cell of the board", "31,23", () -> f.at(0, 1, 0, 3, 0) + "," + f.at(0, 1, 0, 3, 1));
        index("one behind it", () -> f.at(0, 1, 0, 4, 0));
        index("no hole of the other piece", () -> f.at(0, 1, 1, 0, 0));
        for (int bad : FAR_OFF) {
            index("plane " + bad, () -> f.at(bad, 0, 0, 0, 0));
            index("piece " + bad, () -> f.at(0, bad, 0, 0, 0));
            index("ring " + bad, () -> f.at(0, 0, bad, 0, 0));
            index("k of a hole " + bad, () -> f.at(0, 0, 1, bad, 0));
            index("what " + bad, () -> f.at(0, 0, 0, 0, bad));
        }
        for (int bad : new int[] {LOW, -1, 20, 768, FAR}) {
            index("k of an edge " + bad, () -> f.at(0, 0, 0, bad, 0));
        }
        index("plane 1", () -> f.at(1, 0, 0, 0, 0));
        index("piece 2", () -> f.at(0, 2, 0, 0, 0));
        index("what 2", () -> f.at(0, 0, 0, 0, 2));
        index("what 2 of a hole", () -> f.at(0, 0, 1, 0, 2));
    }

    private static void inOffBoard() {
        says("Whether a CELL is filled (others of no board: no).");
        PlaneFills f = whole();
        due("ahead of any fill", false, () -> f.in(0, 0, 0));
        f.fill();
        long[][] on = {{0, 0}, {31, 0}, {0, 23}, {31, 23}};
        for (long[] v : on) {
            due("in " + v[0] + ", " + v[1], true, () -> f.in(0, v[0], v[1]));
        }
        long[] far = {LOW_LONG, LOW, -32, -1, 32, FAR, 1L << 32, FAR_LONG};
        for (long v : far) {
            due("x " + v, false, () -> f.in(0, v, 0));
            due("y " + v, false, () -> f.in(0, 0, v));
            due("both " + v, false, () -> f.in(0, v, v));
        }
        due("y 24", false, () -> f.in(0, 0, 24));
        due("y 24 in the last column", false, () -> f.in(0, 31, 24));

        says("IndexOutOfBoundsException, when there is no such PLANE.");
        for (int bad : FAR_OFF) {
            index("plane " + bad, () -> f.in(bad, 0, 0));
            index("plane " + bad + " off the board", () -> f.in(bad, -1, 0));
        }
        index("plane 1", () -> f.in(1, 0, 0));
    }

    private static void islands() {
        says("How many ISLANDS of a PLANE went.");
        PlaneFills f = new PlaneFills(1);
        f.plane(1, 0, 0);
        f.plane(1, 0, 0);
        due("ahead of any fill", 0, () -> f.islands(0));
        for (int k = 0; k < 4; k++) {
            box(f, 0, 3 * k, 0, 3 * k + 2, 2);
        }
        box(f, 1, 20, 20, 24, 24);
        f.rule(AREA, 4);
        due("pieces as large as AREA stay", 5, f::fill);
        due("none went", "0 0", () -> f.islands(0) + " " + f.islands(1));
        f.rule(AREA, 5);
        due("smaller ones go", 1, f::fill);
        due("of each plane its own", "4 0", () -> f.islands(0) + " " + f.islands(1));
        due("told again the same", "4 0", () -> f.islands(0) + " " + f.islands(1));
        f.fill();
        due("not added up", "4 0", () -> f.islands(0) + " " + f.islands(1));
        f.rule(AREA, 0);
        f.fill();
        due("none went any more", "0 0", () -> f.islands(0) + " " + f.islands(1));

        says("IndexOutOfBoundsException likewise.");
        for (int bad : FAR_OFF) {
            index("islands of plane " + bad, () -> f.islands(bad));
        }
        index("islands of plane 2", () -> f.islands(2));
    }

    private static void spokes() {
        says("Of a PAD's SPOKE by MOAT now: 1 when it has CELLS, and PLANES of its net on its layer fill them all, else 0 (what 0)");
        PlaneFills f = whole();
        f.pad(1, 0, 10, 10, 1, 1);
        f.pad(1, 0, 0, 0, 1, 1);
        f.pad(1, 0, 31, 23, 1, 1);
        due("ahead of any fill", "0000", () -> spokesFilled(f, 0));
        f.fill();
        due("all filled", "1111", () -> spokesFilled(f, 0));
        due("no cells off the board", "1100 0011", () -> spokesFilled(f, 1) + " " + spokesFilled(f, 2));
        f.rule(MOAT, 0);
        due("no cells with MOAT 0", "0000", () -> spokesFilled(f, 0));
        f.rule(MOAT, 4);
        due("by MOAT now, as the latest fill filled", "1111", () -> spokesFilled(f, 0));
        f.rule(GAP, 0);
        f.pad(2, 0, 14, 10, 1, 1);
        f.pad(2, 0, 10, 15, 1, 1);
        f.fill();
        due("the last cell of one is not filled", "0111", () -> spokesFilled(f, 0));
        f.rule(MOAT, 3);
        due("it is none of a shorter one", "1111", () -> spokesFilled(f, 0));
        due("a pad of another net", "0000", () -> spokesFilled(f, 3));

        long[][] ends = {{13, 10}, {10, 13}, {7, 10}, {10, 7}};
        String[] left = {"0111", "1011", "1101", "1110"};
        for (int k = 0; k < 4; k++) {
            long[] end = ends[k];
            PlaneFills g = whole();
            g.rule(GAP, 0);
            g.rule(MOAT, 3);
            g.pad(1, 0, 10, 10, 1, 1);
            g.pad(2, 0, end[0], end[1], 1, 1);
            g.fill();
            due("the last cell of spoke " + k + " is not filled", left[k], () -> spokesFilled(g, 0));
            g.rule(MOAT, 2);
            due("the last but one of spoke " + k + " is", "1111", () -> spokesFilled(g, 0));
        }

        says("the x (1) and y (2) of its CELL next to the PAD (also off the board, or when MOAT is 0)");
        due("at the first corner", "1,0 0,1 -1,0 0,-1", () -> spokeCells(f, 1));
        due("at the last corner", "32,23 31,24 30,23 31,22", () -> spokeCells(f, 2));
        f.rule(MOAT, 0);
        due("when MOAT is 0", "11,10 10,11 9,10 10,9", () -> spokeCells(f, 0));
        due("off the board when MOAT is 0", "1,0 0,1 -1,0 0,-1", () -> spokeCells(f, 1));
        PlaneFills g = new PlaneFills(1);
        g.pad(1, 0, 0, 0, 32, 24);
        due("of a pad that is all of the board", "32,11 15,24 -1,11 15,-1", () -> spokeCells(g, 0));
        due("none is filled", "0000", () -> spokesFilled(g, 0));

        says("IndexOutOfBoundsException, when there is no such PAD, SPOKE, or what.");
        for (int bad : new int[] {LOW, -1, 5, 10, FAR}) {
            index("pad " + bad, () -> f.spoke(bad, 0, 0));
            index("pad " + bad + ", x", () -> f.spoke(bad, 0, 1));
            index("spoke " + bad, () -> f.spoke(0, bad, 0));
            index("spoke " + bad + ", y", () -> f.spoke(0, bad, 2));
            index("what " + bad, () -> f.spoke(0, 0, bad));
        }
        index("spoke 4", () -> f.spoke(0, 4, 1));
        index("what 3", () -> f.spoke(0, 0, 3));
    }

    /** A pad so far off the border that a spoke has only some cells on the board, and each of them cut in turn. */
    private static void spokesOverBorders() {
        says("A PAD's SPOKES 0 .. 3 are the CELLS that are off it by 1 to MOAT to the right, above, to the left, below; "
            + "CELLS are x 0 .. 31, y 0 .. 23");
        int[] stepX = {1, 0, -1, 0};
        int[] stepY = {0, 1, 0, -1};
        for (int k = 0; k < 4; k++) {
            int spoke = k;
            for (int cells = 0; cells <= 4; cells++) {
                String what = "spoke " + k + " of MOAT 4 with " + cells + " cells on the board";
                long x = k == 0 ? 31 - cells : k == 2 ? cells : 16;
                long y = k == 1 ? 23 - cells : k == 3 ? cells : 12;
                PlaneFills f = whole();
                f.rule(GAP, 0);
                f.rule(MOAT, 4);
                f.pad(1, 0, x, y, 1, 1);
                f.fill();
                due(what + ", all filled", cells > 0 ? 1 : 0, () -> f.spoke(0, spoke, 0));
                for (int n = 1; n <= cells; n++) {
                    PlaneFills g = whole();
                    g.rule(GAP, 0);
                    g.rule(MOAT, 4);
                    g.pad(1, 0, x, y, 1, 1);
                    g.pad(2, 0, x + n * stepX[k], y + n * stepY[k], 1, 1);
                    g.fill();
                    due(what + ", cell " + n + " cut", 0, () -> g.spoke(0, spoke, 0));
                    int shorter = n - 1;
                    g.rule(MOAT, shorter);
                    due(what + ", MOAT now ends ahead of the cut " + n, shorter > 0 ? 1 : 0, () -> g.spoke(0, spoke, 0));
                }
            }
        }
    }

    private static void stitches() {
        says("How many CELLS with x and y that are multiples of step are filled by PLANES of a net on two layers at least.");
        PlaneFills f = new PlaneFills(4);
        due("no plane", 0, () -> f.stitch(1, 1));
        f.plane(1, 0, 0);
        f.plane(1, 0, 1);
        box(f, 0, 0, 0, 32, 24);
        box(f, 1, 0, 0, 32, 24);
        f.fill();
        due("two planes on one layer", 0, () -> f.stitch(1, 1));
        f.plane(1, 3, 0);
        f.plane(1, 1, 0);
        box(f, 2, 0, 0, 32, 24);
        f.fill();
        for (int step = 1; step <= 16; step++) {
            int n = step;
            due("two layers, step " + n, (31 / n + 1) * (23 / n + 1), () -> f.stitch(1, n));
        }
        box(f, 3, 0, 0, 32, 24);
        f.fill();
        due("three layers count once", 768, () -> f.stitch(1, 1));
        due("another net", "0 0", () -> f.stitch(0, 1) + " " + f.stitch(2, 1));

        says("IllegalArgumentException, when it is no net, or step not 1 .. 16.");
        for (int net : new int[] {LOW, -1, 100, FAR}) {
            argument("net " + net, () -> f.stitch(net, 1));
        }
        for (long step : new long[] {LOW_LONG, LOW, -1, 0, 17, FAR, 1L << 32, (1L << 32) + 1, FAR_LONG}) {
            argument("step " + step, () -> f.stitch(1, step));
            argument("step " + step + " of no net", () -> f.stitch(100, step));
        }
    }

    private static void hatches() {
        says("A PLANE is HATCHED from now on, or, with step 0, not any more: whether it was otherwise (step or width).");
        PlaneFills f = whole();
        due("at first it is not", false, () -> f.hatch(0, 0, 0));
        due("the least", true, () -> f.hatch(0, 1, 0));
        due("its width alone", true, () -> f.hatch(0, 1, 1));
        due("the same", false, () -> f.hatch(0, 1, 1));
        due("its step alone", true, () -> f.hatch(0, 2, 1));
        due("the greatest", true, () -> f.hatch(0, 16, 16));
        due("a plane of its own", false, () -> {
            f.plane(1, 0, 0);
            return f.hatch(1, 0, 0);
        });
        due("hatched from width 0 on", true, () -> f.hatch(0, 16, 0));
        due("is empty", "0", () -> filled(f, 0));
        due("not any more", true, () -> f.hatch(0, 0, 0));
        due("not any more again", false, () -> f.hatch(0, 0, 0));
        due("is whole", "768", () -> filled(f, 0));

        says("IndexOutOfBoundsException likewise; IllegalArgumentException, when step is not 0 .. 16, or width not 0 .. step.");
        f.hatch(0, 5, 3);
        for (int bad : FAR_OFF) {
            index("hatch of plane " + bad, () -> f.hatch(bad, 4, 1));
        }
        index("hatch of plane 2", () -> f.hatch(2, 4, 1));
        for (long step : new long[] {LOW_LONG, LOW, -1, 17, FAR, (1L << 32) + 5, FAR_LONG}) {
            argument("step " + step, () -> f.hatch(0, step, 0));
            argument("step and width " + step, () -> f.hatch(0, step, step));
        }
        for (int step = 0; step <= 16; step++) {
            int n = step;
            argument("width above step " + n, () -> f.hatch(0, n, n + 1));
            argument("width below, step " + n, () -> f.hatch(0, n, -1));
        }
        for (long width : new long[] {LOW_LONG, LOW, FAR, (1L << 32) + 3, FAR_LONG}) {
            argument("width " + width, () -> f.hatch(0, 5, width));
        }
        due("refused ones change nothing", false, () -> f.hatch(0, 5, 3));
        for (int step = 1; step <= 16; step++) {
            int n = step;
            due("width as step " + n, true, () -> f.hatch(0, n, n));
        }
    }

    private static void changes() {
        says("Whether CELLS with x0 <= x <= x1 and y0 <= y <= y1 are all filled as fill() would fill them now");
        PlaneFills f = whole();
        f.fill();
        f.rule(GAP, 0);
        f.pad(2, 0, 10, 8, 3, 2);
        long[][] other = {{10, 8, 10, 8}, {12, 9, 12, 9}, {0, 0, 10, 8}, {12, 9, 31, 23}, {12, 0, 31, 8}, {0, 9, 10, 23},
            {LOW_LONG, LOW_LONG, FAR_LONG, FAR_LONG}, {12, 9, FAR_LONG, FAR_LONG}, {LOW_LONG, LOW_LONG, 10, 8}};
        for (long[] v : other) {
            due("with it " + java.util.Arrays.toString(v), false, () -> f.changed(v[0], v[1], v[2], v[3]));
        }
        long[][] same = {{9, 8, 9, 9}, {13, 8, 13, 9}, {10, 7, 12, 7}, {10, 10, 12, 10}, {0, 0, 9, 23}, {13, 0, 31, 23},
            {0, 0, 31, 7}, {0, 10, 31, 23}, {13, 0, FAR_LONG, FAR_LONG}, {LOW_LONG, LOW_LONG, FAR_LONG, 7}};
        for (long[] v : same) {
            due("without it " + java.util.Arrays.toString(v), true, () -> f.changed(v[0], v[1], v[2], v[3]));
        }
        long[][] none = {{11, 8, 10, 9}, {10, 9, 12, 8}, {31, 23, 0, 0}, {FAR_LONG, FAR_LONG, LOW_LONG, LOW_LONG}, {32, 0, 40, 23},
            {0, 24, 31, 30}, {-9, 0, -1, 23}, {0, -9, 31, -1}, {(1L << 32) + 10, 8, (1L << 32) + 12, 9},
            {10, (1L << 32) + 8, 12, (1L << 32) + 9}, {FAR_LONG, 0, FAR_LONG, 23}, {LOW_LONG, 0, LOW_LONG, 23},
            {0, FAR_LONG, 31, FAR_LONG}, {0, LOW_LONG, 31, LOW_LONG}, {10, 8, LOW_LONG, 9}, {10, 8, 12, LOW_LONG}};
        for (long[] v : none) {
            due("no cell " + java.util.Arrays.toString(v), true, () -> f.changed(v[0], v[1], v[2], v[3]));
        }

        long[][] corners = {{0, 0}, {31, 0}, {0, 23}, {31, 23}};
        for (long[] v : corners) {
            PlaneFills g = whole();
            g.rule(GAP, 0);
            g.fill();
            g.pad(2, 0, v[0], v[1], 1, 1);
            String at = " the board's corner " + v[0] + ", " + v[1];
            long[] with = {v[0], v[1], v[0], v[1]};
            due("just" + at, false, () -> g.changed(with[0], with[1], with[2], with[3]));
            due("the board, with" + at, false, () -> g.changed(0, 0, 31, 23));
            due("off the board, beside" + at, true, () -> g.changed(-5, v[1] == 0 ? -5 : 24, 40, v[1] == 0 ? -1 : 40));
            due("off the board along x, beside" + at, true, () -> g.changed(v[0] == 0 ? -5 : 32, -5, v[0] == 0 ? -1 : 40, 40));
            due("all rows but that of" + at, true, () -> g.changed(0, v[1] == 0 ? 1 : 0, 31, v[1] == 0 ? 23 : 22));
            due("all columns but that of" + at, true, () -> g.changed(v[0] == 0 ? 1 : 0, 0, v[0] == 0 ? 31 : 30, 23));
        }

        says("by each PLANE for itself");
        PlaneFills g = empty();
        box(g, 0, 4, 4, 8, 8);
        g.rule(GAP, 0);
        g.fill();
        g.plane(2, 0, 1);
        box(g, 1, 4, 4, 8, 8);
        due("a cell goes from one plane to another", false, () -> g.changed(4, 4, 4, 4));
        g.fill();
        g.plane(2, 0, 0);
        box(g, 2, 4, 4, 5, 5);
        due("a cell is filled by one more plane", "false true", () -> g.changed(4, 4, 4, 4) + " " + g.changed(5, 4, 31, 23));

        says("true when none of them would change (whatever this is called; nothing is filled by it; ahead of any fill() none is filled)");
        PlaneFills h = empty();
        box(h, 0, 4, 4, 8, 8);
        due("ahead of any fill", "false true true", () -> h.changed(0, 0, 31, 23) + " " + h.changed(0, 0, 31, 3) + " " + h.changed(8, 0, 31, 23));
        due("nothing is filled by it", "0 false", () -> count(h, 0) + " " + h.changed(7, 7, 7, 7));
        index("nor has it pieces", () -> h.rings(0, 0));
        h.rule(NECK, 5);
        due("what would all go", true, () -> h.changed(0, 0, 31, 23));
        due("no neck went by it", false, () -> h.narrow(0));
        h.rule(NECK, 1);
        h.rule(AREA, 17);
        due("what would be an island", true, () -> h.changed(0, 0, 31, 23));
        due("no island went by it", 0, () -> h.islands(0));
        h.rule(AREA, 16);
        due("then it is filled", 1, h::fill);
        due("and would not change", true, () -> h.changed(0, 0, 31, 23));
        h.rule(AREA, 17);
        due("but would go", false, () -> h.changed(0, 0, 31, 23));
        due("it is there yet", "16 1 0", () -> count(h, 0) + " " + h.rings(0, 0) + " " + h.islands(0));
        h.rule(AREA, 0);
        due("what was told and taken back", true, () -> h.changed(0, 0, 31, 23));
    }

    private static void necks() {
        says("Whether CELLS of a PLANE went for its NECK.");
        PlaneFills f = new PlaneFills(1);
        f.plane(1, 0, 0);
        f.plane(1, 0, 0);
        f.plane(1, 0, 0);
        due("ahead of any fill", false, () -> f.narrow(0));
        box(f, 0, 0, 0, 5, 5);
        ringOf(f, 1, 10, 0, 15, 0, 15, 4, 16, 4, 16, 5, 10, 5);
        boolean[] due = {false, true, true, true, true};
        for (int neck = 1; neck <= 5; neck++) {
            int n = neck;
            f.rule(NECK, neck);
            f.fill();
            due("just as wide, neck " + n, false, () -> f.narrow(0));
            due("one cell more, neck " + n, due[n - 1], () -> f.narrow(1));
            due("an empty plane, neck " + n, false, () -> f.narrow(2));
        }
        f.rule(NECK, 1);
        f.fill();
        due("none went any more", false, () -> f.narrow(1));

        says("IndexOutOfBoundsException likewise.");
        for (int bad : FAR_OFF) {
            index("narrow of plane " + bad, () -> f.narrow(bad));
        }
        index("narrow of plane 3", () -> f.narrow(3));
    }

    /** What a full object refuses must be as if it had never been told. */
    private static void refusedCallsLeaveNothing() {
        says("NONE when there are 8 .. 20 .. 10");
        PlaneFills f = new PlaneFills(1);
        for (int k = 0; k < 8; k++) {
            f.plane(k, 0, 0);
            box(f, k, 4 * k, 0, 4 * k + 3, 20);
        }
        for (int k = 0; k < 20; k++) {
            f.obstacle(99, 0, k, 24, 0);
        }
        for (int k = 0; k < 10; k++) {
            f.pad(k, 0, 3 * k, 23, 1, 1);
        }
        due("full and filled", 8, f::fill);
        due("plane", -1, () -> f.plane(50, 0, 100));
        due("obstacle", -1, () -> f.obstacle(50, 0, 16, 12, 20));
        due("pad", -1, () -> f.pad(50, 0, 0, 0, 32, 24));
        due("nothing would change", true, () -> f.changed(0, 0, 31, 23));
        due("nor does it", 8, f::fill);
    }

    /** The document names no case in which a wrong argument is not told, a full table neither. */
    private static void wrongArgumentsOfFullTables() {
        PlaneFills f = new PlaneFills(2);
        for (int k = 0; k < 8; k++) {
            f.plane(k, 0, 0);
        }
        for (int k = 0; k < 20; k++) {
            f.obstacle(1, 0, 0, 0, 0);
        }
        for (int k = 0; k < 10; k++) {
            f.pad(1, 0, 0, 0, 1, 1);
        }
        says("IndexOutOfBoundsException, when there is no such layer");
        for (int bad : new int[] {LOW, -1, 2, FAR}) {
            index("plane, full, layer " + bad, () -> f.plane(0, bad, 0));
            index("obstacle, full, layer " + bad, () -> f.obstacle(0, bad, 0, 0, 0));
            index("pad, full, layer " + bad, () -> f.pad(0, bad, 0, 0, 1, 1));
            index("plane, full, both wrong, layer " + bad, () -> f.plane(-1, bad, 101));
            index("obstacle, full, both wrong, layer " + bad, () -> f.obstacle(-1, bad, 33, 25, 21));
            index("pad, full, both wrong, layer " + bad, () -> f.pad(-1, bad, 32, 24, 0, 0));
        }
        says("IllegalArgumentException, when it is no net");
        for (int bad : new int[] {LOW, -1, 100, FAR}) {
            argument("plane, full, net " + bad, () -> f.plane(bad, 0, 0));
            argument("obstacle, full, net " + bad, () -> f.obstacle(bad, 0, 0, 0, 0));
            argument("pad, full, net " + bad, () -> f.pad(bad, 0, 0, 0, 1, 1));
        }
        says("or the rank not -100 .. 100");
        argument("plane, full, rank -101", () -> f.plane(0, 0, -101));
        argument("plane, full, rank 101", () -> f.plane(0, 0, 101));
        says("or corner, or r not 0 .. 20");
        long[][] discs = {{-1, 0, 0}, {33, 0, 0}, {0, -1, 0}, {0, 25, 0}, {0, 0, -1}, {0, 0, 21}};
        for (long[] v : discs) {
            argument("obstacle, full, " + v[0] + ", " + v[1] + ", " + v[2], () -> f.obstacle(0, 0, v[0], v[1], v[2]));
        }
        says("or does not lie on the board (w and h at least 1)");
        long[][] pads = {{-1, 0, 1, 1}, {32, 0, 1, 1}, {0, -1, 1, 1}, {0, 24, 1, 1}, {0, 0, 0, 1}, {0, 0, 1, 0},
            {0, 0, 33, 1}, {0, 0, 1, 25}};
        for (long[] v : pads) {
            argument("pad, full, " + v[0] + ", " + v[1] + ", " + v[2] + ", " + v[3], () -> f.pad(0, 0, v[0], v[1], v[2], v[3]));
        }
        says("IllegalArgumentException, when it is no corner");
        for (int ring = 0; ring < 4; ring++) {
            box(f, 0, 0, 0, 1, 1);
        }
        for (int k = 0; k < 12; k++) {
            f.corner(1, 0, 0);
        }
        for (int plane = 0; plane < 2; plane++) {
            int on = plane;
            due("corner, full, plane " + on, false, () -> f.corner(on, 32, 24));
            argument("corner, full, x -1, plane " + on, () -> f.corner(on, -1, 0));
            argument("corner, full, x 33, plane " + on, () -> f.corner(on, 33, 0));
            argument("corner, full, y -1, plane " + on, () -> f.corner(on, 0, -1));
            argument("corner, full, y 25, plane " + on, () -> f.corner(on, 0, 25));
        }
        says("NONE when there are 8 .. 20 .. 10");
        due("right ones", "-1 -1 -1", () -> f.plane(0, 0, 0) + " " + f.obstacle(0, 0, 0, 0, 0) + " " + f.pad(0, 0, 0, 0, 1, 1));
    }

    public static void main(String[] args) {
        newObject();
        ninthPlane();
        refusedPlanes();
        cornersTooMany();
        refusedCorners();
        rings();
        obstacles();
        rules();
        pads();
        fills();
        ringCounts();
        ringCellNumbers();
        inOffBoard();
        islands();
        spokes();
        spokesOverBorders();
        stitches();
        hatches();
        changes();
        necks();
        refusedCallsLeaveNothing();
        wrongArgumentsOfFullTables();
        end();
    }
}
