/** What the tests of single answers share: calls with the answer that is due, and boards to call. */
abstract class Check {
    static final int FAR = Integer.MAX_VALUE;
    static final int LOW = Integer.MIN_VALUE;
    static final long FAR_LONG = Long.MAX_VALUE;
    static final long LOW_LONG = Long.MIN_VALUE;

    static final int GAP = 0;
    static final int MOAT = 1;
    static final int NECK = 2;
    static final int AREA = 3;

    private static String sentence = "";
    private static int wrong;
    private static int checked;

    interface Call {
        Object answer();
    }

    /** The words of the document that the checks from here on are of. */
    static void says(String words) {
        sentence = "\"" + words + "\": ";
    }

    static void due(String what, Object want, Call call) {
        String got;
        try {
            got = String.valueOf(call.answer());
        } catch (RuntimeException e) {
            // The class itself must throw, neither the machine nor the library for it.
            boolean own = e.getStackTrace().length > 0 && e.getStackTrace()[0].getClassName().startsWith("PlaneFills");
            got = own ? e.getClass().getSimpleName() : "from elsewhere " + e;
        }
        checked++;
        if (!got.equals(String.valueOf(want))) {
            wrong++;
            System.out.println(sentence + what + " answered " + got + ", due is " + want);
        }
    }

    static void index(String what, Call call) {
        due(what, "IndexOutOfBoundsException", call);
    }

    static void argument(String what, Call call) {
        due(what, "IllegalArgumentException", call);
    }

    static void ringOf(PlaneFills f, int plane, long... corners) {
        for (int k = 0; k + 1 < corners.length; k += 2) {
            f.corner(plane, corners[k], corners[k + 1]);
        }
        f.ring(plane);
    }

    static void box(PlaneFills f, int plane, long x0, long y0, long x1, long y1) {
        ringOf(f, plane, x0, y0, x1, y0, x1, y1, x0, y1);
    }

    /** An object with the plane 0 of net 1 on layer 0, all of the board. */
    static PlaneFills whole() {
        PlaneFills f = new PlaneFills(2);
        f.plane(1, 0, 0);
        box(f, 0, 0, 0, 32, 24);
        return f;
    }

    static int count(PlaneFills f, int plane) {
        int n = 0;
        for (int y = 0; y < 24; y++) {
            for (int x = 0; x < 32; x++) {
                n += f.in(plane, x, y) ? 1 : 0;
            }
        }
        return n;
    }

    /** The filled cells of some rows as text: # is filled, a row from low to high x, the lowest y first. */
    static String picture(PlaneFills f, int plane, int x0, int y0, int x1, int y1) {
        StringBuilder text = new StringBuilder();
        for (int y = y0; y <= y1; y++) {
            for (int x = x0; x <= x1; x++) {
                text.append(f.in(plane, x, y) ? '#' : '.');
            }
            text.append(y < y1 ? "/" : "");
        }
        return text.toString();
    }

    static String ringCells(PlaneFills f, int plane, int piece, int ring) {
        StringBuilder text = new StringBuilder();
        for (int k = 0; k < 768; k++) {
            try {
                text.append(f.at(plane, piece, ring, k, 0)).append(',').append(f.at(plane, piece, ring, k, 1)).append(' ');
            } catch (IndexOutOfBoundsException e) {
                return text.toString().trim();
            }
        }
        return text.toString().trim();
    }

    static String spokeCells(PlaneFills f, int pad) {
        StringBuilder text = new StringBuilder();
        for (int k = 0; k < 4; k++) {
            text.append(f.spoke(pad, k, 1)).append(',').append(f.spoke(pad, k, 2)).append(' ');
        }
        return text.toString().trim();
    }

    static String spokesFilled(PlaneFills f, int pad) {
        return "" + f.spoke(pad, 0, 0) + f.spoke(pad, 1, 0) + f.spoke(pad, 2, 0) + f.spoke(pad, 3, 0);
    }

    static void end() {
        System.out.println(wrong == 0 ? checked + " answers are as due" : wrong + " answers are not as due");
        if (wrong != 0) {
            System.exit(1);
        }
    }
}
