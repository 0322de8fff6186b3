/** Promises 15 to 19: ink, spilt, used, seam, meanError. */
public final class InkTest {
    private static final int[] NO_PRINTERS = {-1, 3, Integer.MIN_VALUE, Integer.MAX_VALUE};
    private static final int[] NO_BANNERS = {-1, 1, 4, 5, Integer.MIN_VALUE, Integer.MAX_VALUE};

    public static void main(String[] args) {
        inkOfBothStrips();
        inkPrintedOver();
        inkUpToTheLimit();
        inkRefuses();
        spiltRefuses();
        usedCounts();
        usedRefuses();
        seamWithOverlap();
        seamWithoutOverlap();
        seamRefuses();
        meanErrors();
        meanErrorRounds();
        meanErrorRefuses();
        Check.end();
    }

    private static void inkOfBothStrips() {
        StitchBanner x = new StitchBanner();
        x.begin(8, 5, 2, 40, 0);
        x.fill(0, 3, 0, 8, 9);
        Check.due("15: nothing printed", 0, () -> x.ink(0, 3, 3));
        x.put(0, 0, 0);
        x.pass(5);
        Check.due("15: left strip alone", 9, () -> x.ink(0, 3, 2));
        Check.due("15: left half", 5, () -> x.ink(0, 3, 3));
        Check.due("15: last column of the left", 5, () -> x.ink(0, 3, 4));
        Check.due("15: right strip, not printed", 0, () -> x.ink(0, 3, 5));
        x.setGain(1, 200);
        x.put(0, 1, 1);
        x.pass(5);
        Check.due("15: both halves, by their printers", 13, () -> x.ink(0, 3, 3));
        Check.due("15: right strip alone", 18, () -> x.ink(0, 3, 7));
        Check.due("15: another row", 0, () -> x.ink(0, 2, 3));
    }

    private static void inkPrintedOver() {
        StitchBanner x = new StitchBanner();
        x.begin(8, 5, 2, 12, 0);
        x.fill(0, 3, 0, 8, 9);
        x.put(0, 0, 0);
        x.put(0, 1, 1);
        x.pass(5);
        x.pass(20);
        x.setGain(0, 200);
        x.put(0, 0, 0);
        Check.due("15: as before while in the queue", 9, () -> x.ink(0, 3, 3));
        x.pass(4);
        Check.due("15: as before while printing", 9, () -> x.ink(0, 3, 3));
        Check.due("16: nothing spilt before", 0, () -> x.spilt(0));
        x.pass(1);
        Check.due("15: at most the limit", 12, () -> x.ink(0, 3, 3));
        Check.due("16: five dots above the limit", 5, () -> x.spilt(0));
        Check.due("17: a banner's ink, printed over too", 27 + 10 + 27 + 8 + 54 + 20, () -> x.used(true, 0));
        Check.due("17: a printer's ink", 27 + 10 + 54 + 20, () -> x.used(false, 0));
        x.pass(20);
        x.fill(0, 3, 0, 8, 2);
        x.put(0, 0, 2);
        x.pass(5);
        Check.due("15: it takes the place of what was laid", 2, () -> x.ink(0, 3, 0));
        Check.due("15: beside what the right one laid", 5, () -> x.ink(0, 3, 3));
        Check.due("16: nothing spilt any more", 0, () -> x.spilt(0));
    }

    private static void inkUpToTheLimit() {
        StitchBanner x = new StitchBanner();
        x.begin(4, 4, 0, 7, 0);
        x.fill(0, 0, 0, 1, 6);
        x.fill(0, 0, 1, 2, 7);
        x.fill(0, 0, 2, 3, 8);
        x.fill(0, 7, 3, 4, 15);
        x.put(0, 0, 0);
        x.pass(4);
        Check.due("15: below the limit", 6, () -> x.ink(0, 0, 0));
        Check.due("15: at the limit", 7, () -> x.ink(0, 0, 1));
        Check.due("15: above the limit", 7, () -> x.ink(0, 0, 2));
        Check.due("15: far above the limit", 7, () -> x.ink(0, 7, 3));
        Check.due("16: the limit itself is not spilt", 2, () -> x.spilt(0));
        Check.due("17: spilt ink is taken", 36, () -> x.used(true, 0));
        Check.due("17: spilt ink is used", 36, () -> x.used(false, 0));
        Check.due("19: errors of 1 and 8", 9f / 32f, () -> x.meanError(0));
    }

    private static void inkRefuses() {
        StitchBanner x = new StitchBanner();
        x.begin(8, 5, 2, 40, 0);
        for (int banner : NO_BANNERS) {
            Check.index("15: banner " + banner, () -> x.ink(banner, 0, 0));
        }
        int[] noRows = {-1, 8, Integer.MIN_VALUE, Integer.MAX_VALUE};
        for (int row : noRows) {
            Check.index("15: row " + row, () -> x.ink(0, row, 0));
        }
        int[] noColumns = {-1, 8, 31, 32, Integer.MIN_VALUE, Integer.MAX_VALUE};
        for (int column : noColumns) {
            Check.index("15: column " + column, () -> x.ink(0, 0, column));
        }
    }

    private static void spiltRefuses() {
        StitchBanner x = new StitchBanner();
        x.begin(8, 5, 2, 40, 0);
        Check.due("16: nothing", 0, () -> x.spilt(0));
        for (int banner : NO_BANNERS) {
            Check.index("16: banner " + banner, () -> x.spilt(banner));
        }
    }

    private static void usedCounts() {
        StitchBanner x = new StitchBanner();
        x.begin(4, 2, 0, 40, 0);
        x.begin(4, 2, 0, 40, 0);
        for (int row = 0; row < 8; row++) {
            x.fill(0, row, 0, 4, 3);
            x.fill(1, row, 0, 4, 1);
        }
        x.block(0, 0);
        x.put(0, 0, 0);
        x.put(1, 0, 0);
        x.put(0, 1, 1);
        x.pass(1);
        Check.due("17: nothing before it is printed", 0, () -> x.used(false, 0));
        x.pass(1);
        // Of the blocked row 2 are lost above and 1 goes to the row below, in two columns.
        Check.due("17: printer 0", 44, () -> x.used(false, 0));
        Check.due("17: printer 1", 48, () -> x.used(false, 1));
        Check.due("17: banner 0", 92, () -> x.used(true, 0));
        Check.due("17: banner 1", 0, () -> x.used(true, 1));
        x.pass(2);
        Check.due("17: printer 0 by both banners", 58, () -> x.used(false, 0));
        Check.due("17: banner 1 printed", 14, () -> x.used(true, 1));
        x.clean(0);
        Check.due("17: with cleaning", 78, () -> x.used(false, 0));
        Check.due("17: banners take none of it", 14, () -> x.used(true, 1));
        Check.due("17: printer 2", 0, () -> x.used(false, 2));
    }

    private static void usedRefuses() {
        StitchBanner x = new StitchBanner();
        x.begin(4, 2, 0, 40, 0);
        for (int banner : NO_BANNERS) {
            Check.index("17: banner " + banner, () -> x.used(true, banner));
        }
        for (int printer : NO_PRINTERS) {
            Check.index("17: printer " + printer, () -> x.used(false, printer));
        }
        Check.due("17: printer 1 without a banner 1", 0, () -> x.used(false, 1));
    }

    private static void seamWithOverlap() {
        StitchBanner x = new StitchBanner();
        x.begin(11, 6, 2, 40, 0);
        x.put(0, 0, 0);
        x.put(0, 1, 1);
        x.put(0, 2, 2);
        x.pass(6);
        Check.due("18: no error", 0, () -> x.seam(0, 0));
        x.fill(0, 0, 3, 4, 15);
        Check.due("18: column 3 is beside it", 0, () -> x.seam(0, 0));
        x.fill(0, 0, 6, 7, 15);
        Check.due("18: column 6 is beside both", 0, () -> x.seam(0, 0));
        Check.due("18: column 6 is beside both, seam 1", 0, () -> x.seam(0, 1));
        x.fill(0, 0, 4, 5, 3);
        Check.due("18: column 4", 3, () -> x.seam(0, 0));
        x.fill(0, 7, 5, 6, 4);
        Check.due("18: column 5, the greatest", 4, () -> x.seam(0, 0));
        Check.due("18: the other seam", 0, () -> x.seam(0, 1));
        x.fill(0, 7, 8, 9, 5);
        Check.due("18: column 8", 5, () -> x.seam(0, 1));
        x.fill(0, 7, 9, 10, 6);
        Check.due("18: column 9", 6, () -> x.seam(0, 1));
        x.fill(0, 7, 10, 11, 7);
        Check.due("18: column 10 is behind it", 6, () -> x.seam(0, 1));
    }

    private static void seamWithoutOverlap() {
        StitchBanner x = new StitchBanner();
        x.begin(9, 4, 0, 40, 0);
        x.put(0, 0, 0);
        x.put(0, 1, 1);
        x.put(0, 2, 2);
        x.pass(4);
        x.fill(0, 2, 2, 3, 15);
        x.fill(0, 2, 5, 6, 15);
        Check.due("18: columns 2 and 5 are beside it", 0, () -> x.seam(0, 0));
        x.fill(0, 2, 3, 4, 2);
        Check.due("18: the last column of the first", 2, () -> x.seam(0, 0));
        x.fill(0, 2, 4, 5, 3);
        Check.due("18: the first column of the second", 3, () -> x.seam(0, 0));
        x.fill(0, 2, 8, 9, 1);
        Check.due("18: a last strip of one column", 1, () -> x.seam(0, 1));
        x.setGain(0, 200);
        x.put(0, 0, 0);
        x.pass(4);
        x.fill(0, 2, 3, 4, 0);
        Check.due("18: too much ink is an error too", 4, () -> x.seam(0, 0));
    }

    private static void seamRefuses() {
        StitchBanner x = new StitchBanner();
        x.begin(11, 6, 2, 40, 0);
        Check.state("18: none printed", () -> x.seam(0, 0));
        x.put(0, 0, 0);
        x.pass(5);
        Check.state("18: being printed", () -> x.seam(0, 0));
        x.pass(1);
        Check.state("18: left one alone printed", () -> x.seam(0, 0));
        x.put(0, 2, 0);
        x.pass(6);
        Check.state("18: right one alone printed", () -> x.seam(0, 1));
        x.put(0, 1, 0);
        x.pass(6);
        Check.due("18: both printed", 0, () -> x.seam(0, 0));
        Check.due("18: both printed, seam 1", 0, () -> x.seam(0, 1));
        x.put(0, 1, 0);
        x.pass(1);
        Check.due("18: one being printed again", 0, () -> x.seam(0, 1));
        for (int banner : NO_BANNERS) {
            Check.index("18: banner " + banner, () -> x.seam(banner, 0));
        }
        int[] noSeams = {-1, 2, 3, 15, 16, Integer.MIN_VALUE, Integer.MAX_VALUE};
        for (int seam : noSeams) {
            Check.index("18: seam " + seam, () -> x.seam(0, seam));
        }
        StitchBanner y = new StitchBanner();
        y.begin(4, 4, 0, 40, 0);
        y.begin(32, 2, 0, 40, 0);
        Check.index("18: a single strip has no seam", () -> y.seam(0, 0));
        Check.state("18: the last seam of sixteen strips", () -> y.seam(1, 14));
        Check.index("18: no seam behind the last strip", () -> y.seam(1, 15));
    }

    private static void meanErrors() {
        StitchBanner x = new StitchBanner();
        x.begin(4, 2, 0, 40, 0);
        Check.due("19: nothing", 0f, () -> x.meanError(0));
        x.fill(0, 0, 0, 4, 1);
        Check.due("19: not printed", 0.125f, () -> x.meanError(0));
        x.put(0, 0, 0);
        x.pass(2);
        Check.due("19: half printed", 0.0625f, () -> x.meanError(0));
        x.put(0, 1, 0);
        x.pass(2);
        Check.due("19: printed", 0f, () -> x.meanError(0));
        x.fill(0, 0, 0, 4, 0);
        Check.due("19: ink without a level", 0.125f, () -> x.meanError(0));
        x.fill(0, 0, 0, 1, 3);
        Check.due("19: sizes add up", 5f / 32f, () -> x.meanError(0));
    }

    private static void meanErrorRounds() {
        StitchBanner x = new StitchBanner();
        x.begin(7, 2, 0, 40, 0);
        x.fill(0, 0, 0, 1, 1);
        Check.due("19: a 56th as a float", 1f / 56f, () -> x.meanError(0));
        x.fill(0, 7, 6, 7, 12);
        Check.due("19: 13 of 56 as a float", 13f / 56f, () -> x.meanError(0));
    }

    private static void meanErrorRefuses() {
        StitchBanner x = new StitchBanner();
        x.begin(7, 2, 0, 40, 0);
        for (int banner : NO_BANNERS) {
            Check.index("19: banner " + banner, () -> x.meanError(banner));
        }
    }
}
