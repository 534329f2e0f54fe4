import java.util.ArrayList;
import java.util.Arrays;
import java.util.List;

/**
 * Planes of copper on a board of 32 by 24 cells, on one to four layers.
 *
 * Sets of cells are held as 24 rows of one int each: bit x of row y is the cell x, y. The board
 * is just as wide as an int, so what is shifted out of a row has left the board.
 */
public final class PlaneFills {
    public static final int NONE = -1;

    private static final int WIDTH = 32;
    private static final int HEIGHT = 24;
    private static final int CELLS = WIDTH * HEIGHT;
    private static final int BORDER_COLUMNS = 0x80000001;

    private static final int MOST_LAYERS = 4;
    private static final int MOST_PLANES = 8;
    private static final int MOST_DISCS = 20;
    private static final int MOST_PADS = 10;
    private static final int MOST_RINGS = 4;
    private static final int MOST_CORNERS = 12;
    private static final int LEAST_CORNERS = 3;

    private static final int GREATEST_NET = 99;
    private static final int GREATEST_RANK = 100;
    private static final int GREATEST_RADIUS = 20;
    private static final int GREATEST_STEP = 16;

    private static final int GAP = 0;
    private static final int MOAT = 1;
    private static final int NECK = 2;
    private static final int AREA = 3;
    private static final int RULES = 4;
    private static final int[] LEAST_OF_RULE = {0, 0, 1, 0};
    private static final int[] GREATEST_OF_RULE = {5, 4, 5, 1000};

    private static final int SPOKES = 4;
    private static final int[] SPOKE_X = {1, 0, -1, 0};
    private static final int[] SPOKE_Y = {0, 1, 0, -1};

    private final int layers;
    private final List<Plane> planes = new ArrayList<>();
    private final List<Plane> ranked = new ArrayList<>();
    private final List<Disc> discs = new ArrayList<>();
    private final List<Pad> pads = new ArrayList<>();
    private final int[] rules = {1, 1, 1, 0};
    private final Groups pieces = new Groups(false);
    private final Groups gaps = new Groups(true);
    private final int[] spare = new int[HEIGHT];

    public PlaneFills(int layers) {
        this.layers = Math.max(1, Math.min(MOST_LAYERS, layers));
    }

    public int plane(int net, int layer, int rank) throws IndexOutOfBoundsException, IllegalArgumentException {
        requireLayer(layer);
        requireNet(net);
        if (rank < -GREATEST_RANK || rank > GREATEST_RANK) {
            throw new IllegalArgumentException("no such rank");
        }
        if (planes.size() >= MOST_PLANES) {
            return NONE;
        }
        Plane told = new Plane(net, layer, rank);
        ranked.add(placeOfRank(rank), told);
        planes.add(told);
        return planes.size() - 1;
    }

    public boolean corner(int plane, long x, long y) throws IndexOutOfBoundsException, IllegalArgumentException {
        Plane known = knownPlane(plane);
        requireCorner(x, y);
        return known.addCorner((int) x, (int) y);
    }

    public boolean ring(int plane) throws IndexOutOfBoundsException {
        return knownPlane(plane).closeRing();
    }

    public int obstacle(int net, int layer, long x, long y, long r)
            throws IndexOutOfBoundsException, IllegalArgumentException {
        requireLayer(layer);
        requireNet(net);
        requireCorner(x, y);
        if (r < 0 || r > GREATEST_RADIUS) {
            throw new IllegalArgumentException("no such radius");
        }
        if (discs.size() >= MOST_DISCS) {
            return NONE;
        }
        discs.add(new Disc(net, layer, (int) x, (int) y, (int) r));
        return discs.size() - 1;
    }

    public boolean rule(int kind, long v) throws IndexOutOfBoundsException, IllegalArgumentException {
        if (kind < 0 || kind >= RULES) {
            throw new IndexOutOfBoundsException("no such rule");
        }
        if (v < LEAST_OF_RULE[kind] || v > GREATEST_OF_RULE[kind]) {
            throw new IllegalArgumentException("not a value of this rule");
        }
        boolean another = rules[kind] != v;
        rules[kind] = (int) v;
        return another;
    }

    public int pad(int net, int layer, long x, long y, long w, long h)
            throws IndexOutOfBoundsException, IllegalArgumentException {
        requireLayer(layer);
        requireNet(net);
        // The differences are taken only of an x and y on the board, so that they can't wrap around.
        if (!onBoard(x, y) || w < 1 || h < 1 || w > WIDTH - x || h > HEIGHT - y) {
            throw new IllegalArgumentException("not on the board");
        }
        if (pads.size() >= MOST_PADS) {
            return NONE;
        }
        pads.add(new Pad(net, layer, (int) x, (int) y, (int) w, (int) h));
        return pads.size() - 1;
    }

    public int fill() {
        fillTrials();
        int count = 0;
        for (int i = 0; i < planes.size(); i++) {
            Plane each = planes.get(i);
            each.takeTrial();
            count += each.latest.pieceCount;
        }
        return count;
    }

    public int rings(int plane, int piece) throws IndexOutOfBoundsException {
        if (!takePiece(knownPlane(plane), piece)) {
            throw new IndexOutOfBoundsException("no such piece");
        }
        gaps.startAround(pieces.group);
        int count = 1;
        for (int n = 0; n < CELLS && takeNextHole(); n++) {
            count++;
        }
        return count;
    }

    public long at(int plane, int piece, int ring, int k, int what) throws IndexOutOfBoundsException {
        Plane known = knownPlane(plane);
        if (what < 0 || what > 1) {
            throw new IndexOutOfBoundsException("neither x nor y");
        }
        if (!takePiece(known, piece) || !takeRing(ring)) {
            throw new IndexOutOfBoundsException("no such ring");
        }
        int cell = numberedCell(spare, k);
        if (cell == NONE) {
            throw new IndexOutOfBoundsException("no such cell");
        }
        return what == 0 ? cell % WIDTH : cell / WIDTH;
    }

    public boolean in(int plane, long x, long y) throws IndexOutOfBoundsException {
        Plane known = knownPlane(plane);
        return onBoard(x, y) && (known.latest.rows[(int) y] & span(x, x)) != 0;
    }

    public int islands(int plane) throws IndexOutOfBoundsException {
        return knownPlane(plane).latest.islandCount;
    }

    public int spoke(int pad, int k, int what) throws IndexOutOfBoundsException {
        if (pad < 0 || pad >= pads.size()) {
            throw new IndexOutOfBoundsException("no such pad");
        }
        if (k < 0 || k >= SPOKES || what < 0 || what > 2) {
            throw new IndexOutOfBoundsException("no such spoke, or nothing to tell of it");
        }
        Pad known = pads.get(pad);
        if (what == 0) {
            return spokeIsFilled(known, k) ? 1 : 0;
        }
        return what == 1 ? known.besideX(k) : known.besideY(k);
    }

    public int stitch(int net, long step) throws IllegalArgumentException {
        requireNet(net);
        if (step < 1 || step > GREATEST_STEP) {
            throw new IllegalArgumentException("no such step");
        }
        int every = (int) step;
        int columns = columnsBelow(every, 1);
        int count = 0;
        for (int y = 0; y < HEIGHT; y += every) {
            count += Integer.bitCount(columns & onTwoLayers(net, y));
        }
        return count;
    }

    public boolean hatch(int plane, long step, long width) throws IndexOutOfBoundsException, IllegalArgumentException {
        Plane known = knownPlane(plane);
        if (step < 0 || step > GREATEST_STEP || width < 0 || width > step) {
            throw new IllegalArgumentException("no such hatching");
        }
        boolean otherwise = known.hatchStep != step || known.hatchWidth != width;
        known.hatchStep = (int) step;
        known.hatchWidth = (int) width;
        return otherwise;
    }

    public boolean changed(long x0, long y0, long x1, long y1) {
        int columns = span(x0, x1);
        int first = (int) Math.max(0, Math.min(HEIGHT, y0));
        int last = (int) Math.max(-1, Math.min(HEIGHT - 1, y1));
        fillTrials();
        for (int i = 0; i < planes.size(); i++) {
            Plane each = planes.get(i);
            for (int y = first; y <= last; y++) {
                if (((each.latest.rows[y] ^ each.trial.rows[y]) & columns) != 0) {
                    return false;
                }
            }
        }
        return true;
    }

    public boolean narrow(int plane) throws IndexOutOfBoundsException {
        return knownPlane(plane).latest.lostNecks;
    }

    // What calls ask for.

    private void requireLayer(int layer) {
        if (layer < 0 || layer >= layers) {
            throw new IndexOutOfBoundsException("no such layer");
        }
    }

    private static void requireNet(int net) {
        if (net < 0 || net > GREATEST_NET) {
            throw new IllegalArgumentException("no such net");
        }
    }

    private static void requireCorner(long x, long y) {
        if (x < 0 || x > WIDTH || y < 0 || y > HEIGHT) {
            throw new IllegalArgumentException("no such corner");
        }
    }

    private Plane knownPlane(int number) {
        if (number < 0 || number >= planes.size()) {
            throw new IndexOutOfBoundsException("no such plane");
        }
        return planes.get(number);
    }

    private static boolean onBoard(long x, long y) {
        return x >= 0 && x < WIDTH && y >= 0 && y < HEIGHT;
    }

    /** Behind all of the same rank, since a new plane has the greatest number. */
    private int placeOfRank(int rank) {
        int place = 0;
        while (place < ranked.size() && ranked.get(place).rank >= rank) {
            place++;
        }
        return place;
    }

    // Rows of cells.

    /** The cells of a row from one x to another, both with it, as far as they lie on the board. */
    private static int span(long from, long to) {
        long first = Math.max(0, from);
        long last = Math.min(WIDTH - 1, to);
        if (first > last) {
            return 0;
        }
        return (-1 << (int) first) & (-1 >>> (int) (WIDTH - 1 - last));
    }

    /** The cells of a row with x modulo step below width. */
    private static int columnsBelow(int step, int width) {
        int columns = 0;
        if (step > 0) {
            for (int x = 0; x < WIDTH; x += step) {
                columns |= span(x, x + width - 1);
            }
        }
        return columns;
    }

    /** The k-th of the cells, row by row, as y * WIDTH + x. */
    private static int numberedCell(int[] rows, int k) {
        int ahead = k;
        for (int y = 0; y < HEIGHT && ahead >= 0; y++) {
            int count = Integer.bitCount(rows[y]);
            if (ahead < count) {
                return y * WIDTH + numberedColumn(rows[y], ahead);
            }
            ahead -= count;
        }
        return NONE;
    }

    private static int numberedColumn(int row, int k) {
        int rest = row;
        for (int n = 0; n < k; n++) {
            rest &= rest - 1;
        }
        int lowest = rest & -rest;
        return Integer.bitCount(lowest - 1);
    }

    // How planes are filled.

    /** Fills all planes as they would be now, and leaves what the latest fill() filled. */
    private void fillTrials() {
        for (int place = 0; place < ranked.size(); place++) {
            Plane each = ranked.get(place);
            int[] rows = each.trial.rows;
            System.arraycopy(each.outline, 0, rows, 0, HEIGHT);
            takeOffDiscs(each, rows);
            takeOffPads(each, rows);
            for (int i = 0; i < place; i++) {
                takeOffAhead(ranked.get(i), each, rows);
            }
            each.trial.lostNecks = takeOffNecks(rows);
            takeOffHatching(each, rows);
            takeOffIslands(each);
        }
    }

    private void takeOffDiscs(Plane plane, int[] rows) {
        for (int i = 0; i < discs.size(); i++) {
            Disc disc = discs.get(i);
            if (disc.layer == plane.layer && disc.net != plane.net) {
                for (int y = 0; y < HEIGHT; y++) {
                    rows[y] &= ~disc.near(y, rules[GAP]);
                }
            }
        }
    }

    private void takeOffPads(Plane plane, int[] rows) {
        for (int i = 0; i < pads.size(); i++) {
            Pad pad = pads.get(i);
            if (pad.layer == plane.layer) {
                for (int y = 0; y < HEIGHT; y++) {
                    rows[y] &= ~(pad.net == plane.net ? pad.moat(y, rules[MOAT]) : pad.near(y, rules[GAP]));
                }
            }
        }
    }

    private void takeOffAhead(Plane ahead, Plane plane, int[] rows) {
        if (ahead.layer != plane.layer || ahead.net == plane.net) {
            return;
        }
        int gap = rules[GAP];
        for (int y = 0; y < HEIGHT; y++) {
            int near = ahead.trial.rows[y];
            for (int n = 0; n < gap; n++) {
                near |= near << 1 | near >>> 1;
            }
            int last = Math.min(HEIGHT - 1, y + gap);
            for (int other = Math.max(0, y - gap); other <= last; other++) {
                rows[other] &= ~near;
            }
        }
    }

    /** Leaves the cells of whole squares alone: whether others went. */
    private boolean takeOffNecks(int[] rows) {
        int neck = rules[NECK];
        Arrays.fill(spare, 0);
        for (int y = 0; y + neck <= HEIGHT; y++) {
            int cells = cellsOfSquares(rows, y, neck);
            for (int n = 0; n < neck; n++) {
                spare[y + n] |= cells;
            }
        }
        boolean went = false;
        for (int y = 0; y < HEIGHT; y++) {
            went |= rows[y] != spare[y];
            rows[y] = spare[y];
        }
        return went;
    }

    /** The columns of all whole squares that begin in the row first. */
    private static int cellsOfSquares(int[] rows, int first, int neck) {
        int whole = -1;
        for (int n = 0; n < neck && first + n < HEIGHT; n++) {
            whole &= rows[first + n];
        }
        int starts = whole;
        for (int n = 1; n < neck; n++) {
            starts &= whole >>> n;
        }
        int cells = starts;
        for (int n = 1; n < neck; n++) {
            cells |= starts << n;
        }
        return cells;
    }

    private static void takeOffHatching(Plane plane, int[] rows) {
        int step = plane.hatchStep;
        if (step <= 0) {
            return;
        }
        int columns = columnsBelow(step, plane.hatchWidth);
        for (int y = 0; y < HEIGHT; y++) {
            if (y % step >= plane.hatchWidth) {
                rows[y] &= columns;
            }
        }
    }

    private void takeOffIslands(Plane plane) {
        Copper copper = plane.trial;
        copper.pieceCount = 0;
        copper.islandCount = 0;
        pieces.start(copper.rows);
        for (int n = 0; n < CELLS && pieces.next(); n++) {
            if (pieces.size() < rules[AREA] && !pieceHasPad(plane)) {
                copper.islandCount++;
                pieces.takeOff(copper.rows);
            } else {
                copper.pieceCount++;
            }
        }
    }

    private boolean pieceHasPad(Plane plane) {
        for (int i = 0; i < pads.size(); i++) {
            Pad pad = pads.get(i);
            if (pad.layer == plane.layer && pad.net == plane.net && pieces.meets(pad)) {
                return true;
            }
        }
        return false;
    }

    // What the latest fill() filled.

    /** Makes a piece the group of pieces: whether there is such a one. */
    private boolean takePiece(Plane plane, int piece) {
        if (piece < 0 || piece >= plane.latest.pieceCount) {
            return false;
        }
        pieces.start(plane.latest.rows);
        boolean there = true;
        for (int n = 0; n <= piece && there; n++) {
            there = pieces.next();
        }
        return there;
    }

    /** Puts a ring of the piece taken last into the spare rows: whether there is such a one. */
    private boolean takeRing(int ring) {
        if (ring < 0) {
            return false;
        }
        if (ring == 0) {
            takeEdge();
            return true;
        }
        gaps.startAround(pieces.group);
        boolean there = true;
        for (int n = 0; n < ring && there; n++) {
            there = takeNextHole();
        }
        System.arraycopy(gaps.group, 0, spare, 0, HEIGHT);
        return there;
    }

    private void takeEdge() {
        int[] rows = pieces.group;
        for (int y = 0; y < HEIGHT; y++) {
            int row = rows[y];
            int above = y < HEIGHT - 1 ? rows[y + 1] : 0;
            int below = y > 0 ? rows[y - 1] : 0;
            spare[y] = row & ~(row << 1 & row >>> 1 & above & below);
        }
    }

    private boolean takeNextHole() {
        for (int n = 0; n < CELLS && gaps.next(); n++) {
            if (!gaps.comesToBorder()) {
                return true;
            }
        }
        return false;
    }

    /** Cells of a spoke that would lie off the board are none, so they need not be filled. */
    private boolean spokeIsFilled(Pad pad, int k) {
        int x = pad.besideX(k);
        int y = pad.besideY(k);
        boolean hasCells = false;
        for (int n = 0; n < rules[MOAT] && onBoard(x, y); n++) {
            if ((filledRow(pad.net, pad.layer, y) & span(x, x)) == 0) {
                return false;
            }
            hasCells = true;
            x += SPOKE_X[k];
            y += SPOKE_Y[k];
        }
        return hasCells;
    }

    /** The cells of a row that any plane of a net fills on a layer. */
    private int filledRow(int net, int layer, int y) {
        int row = 0;
        for (int i = 0; i < planes.size(); i++) {
            Plane each = planes.get(i);
            if (each.net == net && each.layer == layer) {
                row |= each.latest.rows[y];
            }
        }
        return row;
    }

    private int onTwoLayers(int net, int y) {
        int once = 0;
        int twice = 0;
        for (int layer = 0; layer < layers; layer++) {
            int row = filledRow(net, layer, y);
            twice |= once & row;
            once |= row;
        }
        return twice;
    }

    /** What one filling left of a plane. */
    private static final class Copper {
        private final int[] rows = new int[HEIGHT];
        private int pieceCount;
        private int islandCount;
        private boolean lostNecks;
    }

    private static final class Plane {
        private final int net;
        private final int layer;
        private final int rank;
        private final int[] outline = new int[HEIGHT];
        private final int[] cornerX = new int[MOST_CORNERS];
        private final int[] cornerY = new int[MOST_CORNERS];
        private int corners;
        private int closedRings;
        private int hatchStep;
        private int hatchWidth;
        private Copper latest = new Copper();
        private Copper trial = new Copper();

        private Plane(int net, int layer, int rank) {
            this.net = net;
            this.layer = layer;
            this.rank = rank;
        }

        private void takeTrial() {
            Copper older = latest;
            latest = trial;
            trial = older;
        }

        private boolean addCorner(int x, int y) {
            if (corners >= MOST_CORNERS || closedRings >= MOST_RINGS) {
                return false;
            }
            cornerX[corners] = x;
            cornerY[corners] = y;
            corners++;
            return true;
        }

        /**
         * The outline asks for an odd number of crossings over all rings, so a closed ring turns
         * the cells that it crosses oddly, and its corners are needed no more.
         */
        private boolean closeRing() {
            if (corners < LEAST_CORNERS) {
                return false;
            }
            int from = corners - 1;
            for (int to = 0; to < corners; to++) {
                if (cornerY[from] < cornerY[to]) {
                    turnLeftOf(cornerX[from], cornerY[from], cornerX[to], cornerY[to]);
                } else {
                    turnLeftOf(cornerX[to], cornerY[to], cornerX[from], cornerY[from]);
                }
                from = to;
            }
            corners = 0;
            closedRings++;
            return true;
        }

        /** Turns the cells whose way to greater x meets the side, given by its lower and upper end. */
        private void turnLeftOf(int lowX, int lowY, int highX, int highY) {
            int rise = highY - lowY;
            if (rise <= 0) {
                return;
            }
            for (int y = lowY; y < highY && y < HEIGHT; y++) {
                // Twice the x at which the side meets the middle's height, times the rise.
                int meets = 2 * lowX * rise + (2 * (y - lowY) + 1) * (highX - lowX);
                int greatestMiddle = Math.floorDiv(meets - 1, rise);
                outline[y] ^= span(0, Math.floorDiv(greatestMiddle - 1, 2));
            }
        }
    }

    private static final class Disc {
        private final int net;
        private final int layer;
        private final int x;
        private final int y;
        private final int r;

        private Disc(int net, int layer, int x, int y, int r) {
            this.net = net;
            this.layer = layer;
            this.x = x;
            this.y = y;
            this.r = r;
        }

        /** The cells of a row whose middles are off the place by the radius and the gap at most. */
        private int near(int row, int gap) {
            // Lengths are doubled, so that middles are whole: off the place by odd lengths.
            int reach = 2 * (r + gap);
            int up = 2 * (row - y) + 1;
            int left = reach * reach - up * up;
            int half = 0;
            while (half < WIDTH && (2 * half + 1) * (2 * half + 1) <= left) {
                half++;
            }
            return span(x - half, x + half - 1);
        }
    }

    private static final class Pad {
        private final int net;
        private final int layer;
        private final int x;
        private final int y;
        private final int w;
        private final int h;

        private Pad(int net, int layer, int x, int y, int w, int h) {
            this.net = net;
            this.layer = layer;
            this.x = x;
            this.y = y;
            this.w = w;
            this.h = h;
        }

        /** The cells of a row that are off the pad by so much at most, its own cells with them. */
        private int near(int row, int off) {
            if (row < y - off || row > y + h - 1 + off) {
                return 0;
            }
            return span(x - off, x + w - 1 + off);
        }

        private int moat(int row, int width) {
            if (row == middleY()) {
                return 0;
            }
            int own = near(row, 0);
            int kept = own != 0 ? own : span(middleX(), middleX());
            return near(row, width) & ~kept;
        }

        private int middleX() {
            return x + (w - 1) / 2;
        }

        private int middleY() {
            return y + (h - 1) / 2;
        }

        private int besideX(int spoke) {
            return spoke == 0 ? x + w : spoke == 2 ? x - 1 : middleX();
        }

        private int besideY(int spoke) {
            return spoke == 1 ? y + h : spoke == 3 ? y - 1 : middleY();
        }
    }

    /** Takes cells apart into groups of such as lie beside one another, in the order of their first cells. */
    private static final class Groups {
        private final boolean askew;
        private final int[] rest = new int[HEIGHT];
        private final int[] group = new int[HEIGHT];
        private int first;
        private int last;

        private Groups(boolean askew) {
            this.askew = askew;
        }

        private void start(int[] cells) {
            System.arraycopy(cells, 0, rest, 0, HEIGHT);
            first = 0;
            last = HEIGHT - 1;
        }

        private void startAround(int[] cells) {
            for (int y = 0; y < HEIGHT; y++) {
                rest[y] = ~cells[y];
            }
            first = 0;
            last = HEIGHT - 1;
        }

        /** Makes the next group the one at hand: whether there is one. */
        private boolean next() {
            for (int y = first; y <= last; y++) {
                group[y] = 0;
            }
            for (int y = first; y < HEIGHT; y++) {
                if (rest[y] != 0) {
                    growFrom(y);
                    return true;
                }
            }
            return false;
        }

        /** No cell of a group lies in a row ahead of its first cell's, so it grows from there on. */
        private void growFrom(int row) {
            first = row;
            last = row;
            group[row] = rest[row] & -rest[row];
            boolean grew = true;
            for (int n = 0; n < CELLS && grew; n++) {
                grew = spreadOverRows();
            }
            takeOff(rest);
        }

        private boolean spreadOverRows() {
            boolean grew = false;
            for (int y = first; y < HEIGHT && y <= last + 1; y++) {
                grew |= spreadInRow(y);
                if (group[y] != 0) {
                    last = Math.max(last, y);
                }
            }
            for (int y = last; y >= first; y--) {
                grew |= spreadInRow(y);
            }
            return grew;
        }

        private boolean spreadInRow(int y) {
            int beside = (y > 0 ? group[y - 1] : 0) | (y < HEIGHT - 1 ? group[y + 1] : 0);
            if (askew) {
                beside |= beside << 1 | beside >>> 1;
            }
            int before = group[y];
            int row = before | beside & rest[y];
            boolean grew = true;
            for (int n = 0; n < WIDTH && grew; n++) {
                int wider = row | (row << 1 | row >>> 1) & rest[y];
                grew = wider != row;
                row = wider;
            }
            group[y] = row;
            return row != before;
        }

        private int size() {
            int count = 0;
            for (int y = first; y <= last; y++) {
                count += Integer.bitCount(group[y]);
            }
            return count;
        }

        private boolean meets(Pad pad) {
            for (int y = first; y <= last; y++) {
                if ((group[y] & pad.near(y, 0)) != 0) {
                    return true;
                }
            }
            return false;
        }

        private boolean comesToBorder() {
            boolean comes = first == 0 || last == HEIGHT - 1;
            for (int y = first; y <= last; y++) {
                comes |= (group[y] & BORDER_COLUMNS) != 0;
            }
            return comes;
        }

        private void takeOff(int[] rows) {
            for (int y = first; y <= last; y++) {
                rows[y] &= ~group[y];
            }
        }
    }
}
