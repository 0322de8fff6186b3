/** Promises 1 to 5: a new object, begin, fill, strips, toLay. */
public final class BannersTest {
    private static final int[] FAR = {Integer.MIN_VALUE, Integer.MAX_VALUE};

    public static void main(String[] args) {
        newObject();
        beginNumbers();
        beginEdges();
        beginRefuses();
        fillCounts();
        fillRefuses();
        stripCounts();
        shares();
        sharesOfNeighboursWithoutOverlap();
        toLayRefuses();
        Check.end();
    }

    private static void newObject() {
        StitchBanner x = new StitchBanner();
        Check.index("1: no banner at first", () -> x.strips(0));
        for (int p = 0; p < 3; p++) {
            int printer = p;
            Check.due("1: nothing used", 0, () -> x.used(false, printer));
            Check.due("1: nothing printed", 0, () -> x.prints(printer));
            Check.due("1: gain 100 and correction 100", 15, () -> x.patch(printer, 3, 15));
            Check.due("1: no nozzle blocked", 0, () -> x.clean(printer));
            Check.due("1: gain 100", 100, () -> x.setGain(printer, 100));
        }
        x.begin(4, 4, 0, 1, 0);
        x.put(0, 0, 0);
        x.pass(4);
        Check.due("1: time begins at 0", 4, () -> x.dry(0, 0));
        Check.due("1: objects share nothing", IndexOutOfBoundsException.class, () -> new StitchBanner().strips(0));
    }

    private static void beginNumbers() {
        StitchBanner x = new StitchBanner();
        for (int i = 0; i < 5; i++) {
            Check.due("2: number", i, () -> x.begin(8, 4, 1, 10, 10));
        }
        Check.state("2: a sixth banner", () -> x.begin(8, 4, 1, 10, 10));
        Check.argument("2: argument goes before state", () -> x.begin(3, 4, 1, 10, 10));
        Check.argument("2: argument goes before state, due", () -> x.begin(8, 4, 1, 10, 10001));
        Check.index("2: nothing was begun", () -> x.strips(5));
        Check.due("2: the last one stands", 3, () -> x.strips(4));
    }

    private static void beginEdges() {
        StitchBanner x = new StitchBanner();
        Check.due("2: least", 0, () -> x.begin(4, 2, 0, 1, 0));
        Check.due("2: most", 1, () -> x.begin(32, 12, 3, 40, 10000));
        Check.due("2: widest overlap 3", 2, () -> x.begin(32, 7, 3, 40, 10000));
        Check.due("2: widest overlap 2", 3, () -> x.begin(32, 5, 2, 40, 10000));
        Check.due("2: widest overlap 1", 4, () -> x.begin(32, 3, 1, 40, 10000));
        Check.due("2: levels are 0 at first", 0, () -> x.toLay(1, 0, 0, 0));
        Check.due("2: no ink at first", 0, () -> x.ink(1, 7, 31));
        Check.due("2: no error at first", 0f, () -> x.meanError(1));
        Check.due("2: no ink taken at first", 0, () -> x.used(true, 1));
        Check.due("2: not printed at first", -1, () -> x.dry(1, 0));
    }

    private static void beginRefuses() {
        StitchBanner x = new StitchBanner();
        Check.argument("2: columns 3", () -> x.begin(3, 4, 1, 10, 10));
        Check.argument("2: columns 33", () -> x.begin(33, 4, 1, 10, 10));
        Check.argument("2: width 1", () -> x.begin(8, 1, 0, 10, 10));
        Check.argument("2: width 13", () -> x.begin(8, 13, 1, 10, 10));
        Check.argument("2: overlap -1", () -> x.begin(8, 4, -1, 10, 10));
        Check.argument("2: overlap 4", () -> x.begin(8, 12, 4, 10, 10));
        Check.argument("2: overlap half of width 2", () -> x.begin(8, 2, 1, 10, 10));
        Check.argument("2: overlap half of width 4", () -> x.begin(8, 4, 2, 10, 10));
        Check.argument("2: overlap half of width 6", () -> x.begin(8, 6, 3, 10, 10));
        Check.argument("2: overlap over half of width 5", () -> x.begin(8, 5, 3, 10, 10));
        Check.argument("2: limit 0", () -> x.begin(8, 4, 1, 0, 10));
        Check.argument("2: limit 41", () -> x.begin(8, 4, 1, 41, 10));
        Check.argument("2: due -1", () -> x.begin(8, 4, 1, 10, -1));
        Check.argument("2: due 10001", () -> x.begin(8, 4, 1, 10, 10001));
        for (int far : FAR) {
            Check.argument("2: far columns", () -> x.begin(far, 4, 1, 10, 10));
            Check.argument("2: far width", () -> x.begin(8, far, 1, 10, 10));
            Check.argument("2: far overlap", () -> x.begin(8, 4, far, 10, 10));
            Check.argument("2: far limit", () -> x.begin(8, 4, 1, far, 10));
            Check.argument("2: far due", () -> x.begin(8, 4, 1, 10, far));
        }
        Check.argument("2: overlap that wraps round when doubled", () -> x.begin(8, 4, 1 << 31, 10, 10));
        Check.index("2: nothing was begun", () -> x.strips(0));
        Check.due("2: the first one is 0 still", 0, () -> x.begin(8, 4, 1, 10, 10));
    }

    private static void fillCounts() {
        StitchBanner x = new StitchBanner();
        x.begin(10, 4, 1, 10, 10);
        x.begin(10, 4, 1, 10, 10);
        Check.due("3: level 0 is there already", 0, () -> x.fill(0, 0, 0, 10, 0));
        Check.due("3: a part", 4, () -> x.fill(0, 0, 2, 6, 9));
        Check.due("3: the same again", 0, () -> x.fill(0, 0, 2, 6, 9));
        Check.due("3: overlapping", 4, () -> x.fill(0, 0, 0, 8, 9));
        Check.due("3: another level", 8, () -> x.fill(0, 0, 0, 10, 0));
        Check.due("3: a whole row, highest level", 10, () -> x.fill(0, 7, 0, 10, 15));
        Check.due("3: the last column", 1, () -> x.fill(0, 7, 9, 10, 14));
        Check.due("3: the last column's level", 14, () -> x.toLay(0, 2, 7, 9));
        Check.due("3: the column before", 15, () -> x.toLay(0, 2, 7, 8));
        Check.due("3: the row above", 0, () -> x.toLay(0, 2, 6, 8));
        Check.due("3: the other banner", 0, () -> x.toLay(1, 2, 7, 8));
    }

    private static void fillRefuses() {
        StitchBanner x = new StitchBanner();
        x.begin(10, 4, 1, 10, 10);
        Check.index("3: banner 1", () -> x.fill(1, 0, 0, 1, 1));
        Check.index("3: banner -1", () -> x.fill(-1, 0, 0, 1, 1));
        Check.index("3: banner 5", () -> x.fill(5, 0, 0, 1, 1));
        Check.index("3: row -1", () -> x.fill(0, -1, 0, 1, 1));
        Check.index("3: row 8", () -> x.fill(0, 8, 0, 1, 1));
        Check.index("3: from -1", () -> x.fill(0, 0, -1, 1, 1));
        Check.index("3: from 10", () -> x.fill(0, 0, 10, 11, 1));
        Check.argument("3: end at from", () -> x.fill(0, 0, 3, 3, 1));
        Check.argument("3: end before from", () -> x.fill(0, 0, 3, 2, 1));
        Check.argument("3: end behind the columns", () -> x.fill(0, 0, 3, 11, 1));
        Check.argument("3: level -1", () -> x.fill(0, 0, 3, 4, -1));
        Check.argument("3: level 16", () -> x.fill(0, 0, 3, 4, 16));
        for (int far : FAR) {
            Check.index("3: far banner", () -> x.fill(far, 0, 0, 1, 1));
            Check.index("3: far row", () -> x.fill(0, far, 0, 1, 1));
            Check.index("3: far from", () -> x.fill(0, 0, far, 1, 1));
            Check.argument("3: far end", () -> x.fill(0, 0, 0, far, 1));
            Check.argument("3: far level", () -> x.fill(0, 0, 0, 1, far));
        }
        Check.index("3: index goes before end", () -> x.fill(0, 8, 0, 0, 1));
        Check.index("3: index goes before level", () -> x.fill(0, 0, 10, 11, 16));
        Check.due("3: nothing was filled", 0, () -> x.fill(0, 0, 0, 10, 0));
    }

    private static void stripCounts() {
        int[][] shapes = {{4, 2, 0, 2}, {32, 2, 0, 16}, {32, 3, 1, 16}, {5, 2, 0, 3}, {12, 6, 2, 3}, {10, 6, 2, 2},
            {11, 6, 2, 3}, {32, 7, 3, 8}, {4, 12, 3, 1}, {12, 12, 3, 1}, {13, 12, 3, 2}, {32, 12, 0, 3},
            {8, 4, 0, 2}, {9, 4, 0, 3}};
        for (int[] shape : shapes) {
            StitchBanner x = new StitchBanner();
            x.begin(shape[0], shape[1], shape[2], 10, 10);
            Check.due("4: strips of " + shape[0] + " by " + shape[1] + " over " + shape[2], shape[3],
                () -> x.strips(0));
            Check.due("4: the last strip is there", -1, () -> x.dry(0, shape[3] - 1));
            Check.index("4: no strip behind it", () -> x.dry(0, shape[3]));
            Check.index("4: banner 1", () -> x.strips(1));
            Check.index("4: banner -1", () -> x.strips(-1));
            Check.index("4: far banner", () -> x.strips(Integer.MAX_VALUE));
        }
    }

    private static void shares() {
        StitchBanner x = new StitchBanner();
        x.begin(11, 6, 2, 10, 10);
        x.fill(0, 2, 0, 11, 15);
        int[][] due = {
            {15, 15, 15, 15, 8, 8, 0, 0, 0, 0, 0},
            {0, 0, 0, 0, 7, 7, 15, 15, 8, 8, 0},
            {0, 0, 0, 0, 0, 0, 0, 0, 7, 7, 15}};
        for (int s = 0; s < due.length; s++) {
            for (int c = 0; c < due[s].length; c++) {
                int strip = s;
                int column = c;
                Check.due("5: strip " + s + " column " + c, due[s][c], () -> x.toLay(0, strip, 2, column));
            }
        }
        Check.due("5: another row", 0, () -> x.toLay(0, 0, 1, 4));
        x.fill(0, 2, 4, 5, 6);
        Check.due("5: even half, left", 3, () -> x.toLay(0, 0, 2, 4));
        Check.due("5: even half, right", 3, () -> x.toLay(0, 1, 2, 4));
        x.fill(0, 2, 4, 5, 1);
        Check.due("5: half of 1, left", 1, () -> x.toLay(0, 0, 2, 4));
        Check.due("5: half of 1, right", 0, () -> x.toLay(0, 1, 2, 4));
    }

    private static void sharesOfNeighboursWithoutOverlap() {
        StitchBanner x = new StitchBanner();
        x.begin(5, 2, 0, 10, 10);
        x.fill(0, 0, 0, 5, 9);
        int[][] due = {{9, 9, 0, 0, 0}, {0, 0, 9, 9, 0}, {0, 0, 0, 0, 9}};
        for (int s = 0; s < due.length; s++) {
            for (int c = 0; c < due[s].length; c++) {
                int strip = s;
                int column = c;
                Check.due("5: no overlap, strip " + s + " column " + c, due[s][c],
                    () -> x.toLay(0, strip, 0, column));
            }
        }
        x.begin(4, 12, 3, 10, 10);
        x.fill(1, 0, 0, 4, 9);
        for (int c = 0; c < 4; c++) {
            int column = c;
            Check.due("5: a single strip, column " + c, 9, () -> x.toLay(1, 0, 0, column));
        }
    }

    private static void toLayRefuses() {
        StitchBanner x = new StitchBanner();
        x.begin(11, 6, 2, 10, 10);
        Check.index("5: banner 1", () -> x.toLay(1, 0, 0, 0));
        Check.index("5: banner -1", () -> x.toLay(-1, 0, 0, 0));
        Check.index("5: strip 3", () -> x.toLay(0, 3, 0, 0));
        Check.index("5: strip -1", () -> x.toLay(0, -1, 0, 0));
        Check.index("5: row 8", () -> x.toLay(0, 0, 8, 0));
        Check.index("5: row -1", () -> x.toLay(0, 0, -1, 0));
        Check.index("5: column 11", () -> x.toLay(0, 0, 0, 11));
        Check.index("5: column -1", () -> x.toLay(0, 0, 0, -1));
        for (int far : FAR) {
            Check.index("5: far banner", () -> x.toLay(far, 0, 0, 0));
            Check.index("5: far strip", () -> x.toLay(0, far, 0, 0));
            Check.index("5: far row", () -> x.toLay(0, 0, far, 0));
            Check.index("5: far column", () -> x.toLay(0, 0, 0, far));
        }
    }
}
