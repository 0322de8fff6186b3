/** Promises 15 to 19, boundary cases: one test for each sentence of the document that names one. */
public final class InkEdgesTest {
    public static void main(String[] args) {
        promise15ABannerARowAndAColumn();
        promise15NothingPrinted();
        promise15ACornerOfTheBanner();
        promise15AtMostTheLimit();
        promise15EveryLimit();
        promise15WhatBothStripsLayIsCutOnce();
        promise15WhatThePrintedStripsLay();
        promise16ABanner();
        promise16FromNoneToAllDots();
        promise16AboveTheLimitAlone();
        promise16AnOverlapIsSpiltOnce();
        promise16PrintedOverWithLess();
        promise17APrinterOrABanner();
        promise17FromNothingOn();
        promise17SpiltInk();
        promise17InkThatIsPrintedOver();
        promise17CleaningUses20More();
        promise17WhenItIsPrinted();
        promise17WhatIsLostIsNotUsed();
        promise18ABanner();
        promise18From0ToTheNumberOfStripsLess2();
        promise18NoSeamOfASingleStrip();
        promise18BothStripsMustBePrinted();
        promise18IndexGoesFirst();
        promise18TheColumnsThatBothHave();
        promise18WithoutOverlap();
        promise18ALastStripOfOneColumn();
        promise18TheGreatestOfAllRows();
        promise18FromNoErrorToTheGreatest();
        promise18InkIsCutByTheLimitFirst();
        promise19ABanner();
        promise19NoError();
        promise19AllDotsAreCounted();
        promise19TheGreatest();
        promise19SizesDoNotCancel();
        promise19DividedAsFloats();
        Check.end();
    }

    private static StitchBanner shop(int columns, int width, int overlap, int limit) {
        StitchBanner x = new StitchBanner();
        x.begin(columns, width, overlap, limit, 0);
        return x;
    }

    private static void fillAll(StitchBanner x, int columns, int level) {
        for (int row = 0; row < 8; row++) {
            x.fill(0, row, 0, columns, level);
        }
    }

    /** Puts one strip after the other to a printer, and lets them be printed. */
    private static void printAll(StitchBanner x, int strips, int printer) {
        for (int strip = 0; strip < strips; strip++) {
            x.put(0, strip, printer);
        }
        x.pass(200);
    }

    // "IndexOutOfBoundsException if there is no such banner, row or column"
    private static void promise15ABannerARowAndAColumn() {
        int[] sizes = {4, 31, 32};
        for (int columns : sizes) {
            StitchBanner x = shop(columns, 2, 0, 40);
            x.begin(4, 2, 0, 40, 0);
            for (int banner : Check.outside(0, 1)) {
                Check.index("15: banner " + banner + " of two", () -> x.ink(banner, 0, 0));
            }
            for (int row : Check.outside(0, 7)) {
                Check.index("15: row " + row, () -> x.ink(0, row, 0));
            }
            for (int column : Check.outside(0, columns - 1)) {
                Check.index("15: column " + column + " of " + columns, () -> x.ink(0, 0, column));
            }
            Check.index("15: row -1 with a column behind", () -> x.ink(0, -1, columns));
            Check.due("15: the first dot", 0, () -> x.ink(0, 0, 0));
            Check.due("15: the last dot", 0, () -> x.ink(0, 7, columns - 1));
            Check.due("15: the last dot of the last banner", 0, () -> x.ink(1, 7, 3));
        }
    }

    private static void promise15NothingPrinted() {
        StitchBanner x = shop(32, 12, 3, 1);
        fillAll(x, 32, 15);
        for (int r = 0; r < 8; r++) {
            for (int c = 0; c < 32; c++) {
                int row = r;
                int column = c;
                Check.due("15: nothing printed", 0, () -> x.ink(0, row, column));
            }
        }
    }

    private static void promise15ACornerOfTheBanner() {
        int[][] corners = {{0, 0}, {0, 31}, {7, 0}, {7, 31}};
        for (int[] corner : corners) {
            StitchBanner x = shop(32, 2, 0, 40);
            x.fill(0, corner[0], corner[1], corner[1] + 1, 15);
            printAll(x, 16, 0);
            for (int[] other : corners) {
                Check.due("15: of the corners, row " + other[0] + ", column " + other[1],
                    other == corner ? 15 : 0, () -> x.ink(0, other[0], other[1]));
            }
        }
    }

    // "but at most the limit of the cloth"
    private static void promise15AtMostTheLimit() {
        StitchBanner x = shop(4, 4, 0, 7);
        x.fill(0, 0, 0, 1, 6);
        x.fill(0, 0, 1, 2, 7);
        x.fill(0, 0, 2, 3, 8);
        x.fill(0, 0, 3, 4, 15);
        printAll(x, 1, 0);
        int[] due = {6, 7, 7, 7};
        for (int c = 0; c < 4; c++) {
            int column = c;
            Check.due("15: limit 7, column " + c, due[c], () -> x.ink(0, 0, column));
        }
    }

    // "limit: 1 to 40"
    private static void promise15EveryLimit() {
        for (int limit = 1; limit <= 40; limit++) {
            StitchBanner x = shop(7, 4, 1, limit);
            x.fill(0, 0, 0, 7, 15);
            x.setGain(0, 50);
            x.match(0);
            x.setGain(0, 200);
            printAll(x, 2, 0);
            // 8 and 7 are doubled to 15 at most and 14, and then by the gain to 30 and 28.
            Check.due("15: 58 on limit " + limit, limit, () -> x.ink(0, 0, 3));
            Check.due("15: 30 on limit " + limit, Math.min(30, limit), () -> x.ink(0, 0, 0));
            Check.due("15: 0 on limit " + limit, 0, () -> x.ink(0, 1, 3));
        }
    }

    private static void promise15WhatBothStripsLayIsCutOnce() {
        StitchBanner x = shop(7, 4, 1, 8);
        x.fill(0, 0, 3, 4, 15);
        x.put(0, 0, 0);
        x.pass(4);
        Check.due("15: 8 of the left strip", 8, () -> x.ink(0, 0, 3));
        Check.due("16: none spilt yet", 0, () -> x.spilt(0));
        x.put(0, 1, 0);
        x.pass(4);
        Check.due("15: 15 of both are 8 by the limit", 8, () -> x.ink(0, 0, 3));
        Check.due("16: one spilt", 1, () -> x.spilt(0));
        x.fill(0, 0, 3, 4, 3);
        x.pass(8);
        x.put(0, 0, 0);
        x.pass(4);
        Check.due("15: 2 of the left and 7 of the right one", 8, () -> x.ink(0, 0, 3));
        x.pass(2);
        x.fill(0, 0, 3, 4, 2);
        x.put(0, 0, 0);
        x.pass(4);
        Check.due("15: 1 of the left and 7 of the right one", 8, () -> x.ink(0, 0, 3));
        Check.due("16: just the limit", 0, () -> x.spilt(0));
    }

    // "what all strips that are printed lay there"
    private static void promise15WhatThePrintedStripsLay() {
        StitchBanner x = shop(7, 4, 1, 40);
        x.fill(0, 0, 0, 7, 15);
        x.put(0, 1, 0);
        x.pass(3);
        Check.due("15: being printed", 0, () -> x.ink(0, 0, 3));
        x.pass(1);
        Check.due("15: the right strip alone", 7, () -> x.ink(0, 0, 3));
        Check.due("15: the left strip is not printed", 0, () -> x.ink(0, 0, 2));
        x.put(0, 0, 0);
        x.pass(4);
        Check.due("15: both", 15, () -> x.ink(0, 0, 3));
    }

    // "IndexOutOfBoundsException if there is no such banner"
    private static void promise16ABanner() {
        StitchBanner x = shop(4, 2, 0, 40);
        x.begin(4, 2, 0, 40, 0);
        for (int banner : Check.outside(0, 1)) {
            Check.index("16: banner " + banner + " of two", () -> x.spilt(banner));
        }
        Check.due("16: banner 0 of two", 0, () -> x.spilt(0));
        Check.due("16: banner 1 of two", 0, () -> x.spilt(1));
    }

    private static void promise16FromNoneToAllDots() {
        StitchBanner x = shop(32, 12, 3, 14);
        Check.due("16: nothing is printed", 0, () -> x.spilt(0));
        fillAll(x, 32, 15);
        Check.due("16: nothing is printed, levels above the limit", 0, () -> x.spilt(0));
        printAll(x, 4, 0);
        Check.due("16: all dots", 256, () -> x.spilt(0));
        StitchBanner y = shop(32, 12, 3, 15);
        fillAll(y, 32, 15);
        printAll(y, 4, 0);
        Check.due("16: all dots have just the limit", 0, () -> y.spilt(0));
        StitchBanner z = shop(32, 12, 3, 7);
        fillAll(z, 32, 7);
        z.fill(0, 0, 0, 6, 8);
        z.fill(0, 7, 3, 9, 15);
        printAll(z, 1, 0);
        Check.due("16: some dots of the first and the last row", 12, () -> z.spilt(0));
    }

    // "what is above is spilt"
    private static void promise16AboveTheLimitAlone() {
        for (int limit = 1; limit <= 15; limit++) {
            StitchBanner x = shop(16, 8, 0, limit);
            for (int level = 0; level <= 15; level++) {
                x.fill(0, 7, level, level + 1, level);
            }
            printAll(x, 2, 0);
            Check.due("16: levels above the limit " + limit, 15 - limit, () -> x.spilt(0));
        }
    }

    private static void promise16AnOverlapIsSpiltOnce() {
        StitchBanner x = shop(7, 4, 1, 1);
        x.fill(0, 0, 3, 4, 15);
        printAll(x, 2, 0);
        Check.due("16: a dot of two strips", 1, () -> x.spilt(0));
        StitchBanner y = shop(7, 4, 1, 1);
        y.fill(0, 0, 3, 4, 2);
        printAll(y, 2, 0);
        Check.due("16: each is at the limit, both are above", 1, () -> y.spilt(0));
    }

    private static void promise16PrintedOverWithLess() {
        StitchBanner x = shop(4, 4, 0, 5);
        x.fill(0, 3, 0, 4, 6);
        printAll(x, 1, 0);
        Check.due("16: above the limit", 4, () -> x.spilt(0));
        x.fill(0, 3, 0, 3, 5);
        Check.due("16: the picture alone changes nothing", 4, () -> x.spilt(0));
        printAll(x, 1, 0);
        Check.due("16: one is above the limit still", 1, () -> x.spilt(0));
    }

    // "IndexOutOfBoundsException if there is no such printer or banner"
    private static void promise17APrinterOrABanner() {
        StitchBanner x = new StitchBanner();
        for (int n = 0; n <= 5; n++) {
            int count = n;
            for (int banner : Check.outside(0, count - 1)) {
                Check.index("17: banner " + banner + " of " + count, () -> x.used(true, banner));
            }
            for (int printer : Check.outside(0, 2)) {
                Check.index("17: printer " + printer, () -> x.used(false, printer));
            }
            Check.due("17: printer 2", 0, () -> x.used(false, 2));
            if (n < 5) {
                x.begin(4, 2, 0, 40, 0);
                Check.due("17: banner " + n, 0, () -> x.used(true, count));
            }
        }
        Check.due("17: banner 4 without a printer 4", 0, () -> x.used(true, 4));
    }

    private static void promise17FromNothingOn() {
        StitchBanner x = shop(4, 4, 0, 40);
        printAll(x, 1, 1);
        Check.due("17: a printing of nothing, printer", 0, () -> x.used(false, 1));
        Check.due("17: a printing of nothing, banner", 0, () -> x.used(true, 0));
        x.fill(0, 7, 3, 4, 1);
        printAll(x, 1, 1);
        Check.due("17: the least, printer", 1, () -> x.used(false, 1));
        Check.due("17: the least, banner", 1, () -> x.used(true, 0));
        StitchBanner y = shop(32, 12, 0, 40);
        fillAll(y, 32, 15);
        y.setGain(2, 200);
        printAll(y, 3, 2);
        Check.due("17: the most, printer", 256 * 30, () -> y.used(false, 2));
        Check.due("17: the most, banner", 256 * 30, () -> y.used(true, 0));
        Check.due("17: another printer", 0, () -> y.used(false, 1));
    }

    // "whether it was spilt"
    private static void promise17SpiltInk() {
        StitchBanner x = shop(4, 4, 0, 1);
        x.fill(0, 0, 0, 4, 15);
        printAll(x, 1, 0);
        Check.due("17: spilt ink, printer", 60, () -> x.used(false, 0));
        Check.due("17: spilt ink, banner", 60, () -> x.used(true, 0));
    }

    // "or printed over"
    private static void promise17InkThatIsPrintedOver() {
        StitchBanner x = shop(4, 4, 0, 40);
        x.fill(0, 0, 0, 4, 15);
        printAll(x, 1, 0);
        x.fill(0, 0, 0, 4, 1);
        printAll(x, 1, 1);
        x.fill(0, 0, 0, 4, 0);
        printAll(x, 1, 2);
        Check.due("17: the banner took both", 64, () -> x.used(true, 0));
        Check.due("17: the first printer", 60, () -> x.used(false, 0));
        Check.due("17: the second printer", 4, () -> x.used(false, 1));
        Check.due("17: the third printer laid nothing", 0, () -> x.used(false, 2));
    }

    // "cleaning a printer uses 20 more"
    private static void promise17CleaningUses20More() {
        StitchBanner x = shop(4, 4, 0, 40);
        x.fill(0, 0, 0, 4, 15);
        printAll(x, 1, 0);
        x.clean(0);
        Check.due("17: the printer", 80, () -> x.used(false, 0));
        Check.due("17: the banner takes none of it", 60, () -> x.used(true, 0));
        x.put(0, 0, 0);
        x.pass(1);
        Check.state("9: printing", () -> x.clean(0));
        Check.due("17: a refused cleaning uses nothing", 80, () -> x.used(false, 0));
    }

    private static void promise17WhenItIsPrinted() {
        StitchBanner x = shop(4, 4, 0, 40);
        x.fill(0, 0, 0, 4, 15);
        x.put(0, 0, 0);
        x.pass(3);
        Check.due("17: nothing before the last tick, printer", 0, () -> x.used(false, 0));
        Check.due("17: nothing before the last tick, banner", 0, () -> x.used(true, 0));
        x.pass(1);
        Check.due("17: all behind it, printer", 60, () -> x.used(false, 0));
        Check.due("17: all behind it, banner", 60, () -> x.used(true, 0));
    }

    // "what would go to a blocked nozzle, or to no row, is lost"
    private static void promise17WhatIsLostIsNotUsed() {
        StitchBanner x = shop(4, 4, 0, 40);
        x.fill(0, 0, 0, 4, 3);
        x.fill(0, 7, 0, 4, 3);
        x.block(0, 0);
        x.block(0, 7);
        printAll(x, 1, 0);
        Check.due("17: 1 goes to row 1, and 2 go to row 6", 12, () -> x.used(false, 0));
        Check.due("17: the banner takes no more", 12, () -> x.used(true, 0));
    }

    // "IndexOutOfBoundsException if there is no such banner"
    private static void promise18ABanner() {
        StitchBanner x = shop(4, 2, 0, 40);
        x.begin(4, 2, 0, 40, 0);
        for (int banner : Check.outside(0, 1)) {
            Check.index("18: banner " + banner + " of two", () -> x.seam(banner, 0));
        }
        printAll(x, 2, 0);
        for (int banner : Check.outside(0, 1)) {
            Check.index("18: banner " + banner + " of two, printed", () -> x.seam(banner, 0));
        }
        Check.due("18: banner 0 of two", 0, () -> x.seam(0, 0));
        Check.state("18: banner 1 of two", () -> x.seam(1, 0));
    }

    // "seam: 0 to the number of strips less 2"
    private static void promise18From0ToTheNumberOfStripsLess2() {
        for (int c = 4; c <= 32; c++) {
            int strips = (c + 1) / 2;
            StitchBanner x = shop(c, 2, 0, 40);
            for (int seam : Check.outside(0, strips - 2)) {
                Check.index("18: seam " + seam + " of " + strips + " strips, none printed", () -> x.seam(0, seam));
            }
            printAll(x, strips, 0);
            for (int seam : Check.outside(0, strips - 2)) {
                Check.index("18: seam " + seam + " of " + strips + " strips", () -> x.seam(0, seam));
            }
            Check.due("18: the first seam of " + strips + " strips", 0, () -> x.seam(0, 0));
            Check.due("18: the last seam of " + strips + " strips", 0, () -> x.seam(0, strips - 2));
        }
    }

    private static void promise18NoSeamOfASingleStrip() {
        StitchBanner x = shop(4, 4, 0, 40);
        for (int seam : Check.outside(0, -1)) {
            Check.index("18: seam " + seam + " of a single strip", () -> x.seam(0, seam));
        }
        printAll(x, 1, 0);
        Check.index("18: seam 0 of a single strip, printed", () -> x.seam(0, 0));
        Check.index("18: seam -1 of a single strip, printed", () -> x.seam(0, -1));
    }

    // "IllegalStateException if one of both strips was not printed"
    private static void promise18BothStripsMustBePrinted() {
        StitchBanner x = shop(6, 2, 0, 40);
        Check.state("18: none is printed", () -> x.seam(0, 0));
        x.put(0, 0, 0);
        Check.state("18: the left one is in the queue", () -> x.seam(0, 0));
        x.pass(2);
        Check.state("18: the left one alone is printed", () -> x.seam(0, 0));
        x.put(0, 2, 0);
        x.pass(2);
        Check.state("18: not the right one, but the one behind it", () -> x.seam(0, 0));
        Check.state("18: the right one alone is printed", () -> x.seam(0, 1));
        x.put(0, 1, 0);
        x.pass(1);
        Check.state("18: the right one is being printed", () -> x.seam(0, 0));
        Check.state("18: the left one is being printed", () -> x.seam(0, 1));
        x.pass(1);
        Check.due("18: both are printed", 0, () -> x.seam(0, 0));
        Check.due("18: both of the next are printed", 0, () -> x.seam(0, 1));
        x.put(0, 1, 0);
        Check.due("18: printed once, in the queue again", 0, () -> x.seam(0, 0));
        x.pass(1);
        Check.due("18: printed once, being printed again", 0, () -> x.seam(0, 1));
    }

    // "If several apply, IndexOutOfBoundsException goes first"
    private static void promise18IndexGoesFirst() {
        StitchBanner x = shop(4, 2, 0, 40);
        Check.index("18: strip 0 unprinted, seam -1", () -> x.seam(0, -1));
        Check.index("18: strip 1 unprinted, seam 1", () -> x.seam(0, 1));
        x.put(0, 1, 0);
        x.pass(2);
        Check.index("18: strip 0 alone unprinted, seam -1", () -> x.seam(0, -1));
        Check.index("18: strip 1 printed, seam 1", () -> x.seam(0, 1));
        Check.state("18: strip 0 unprinted, seam 0", () -> x.seam(0, 0));
    }

    // "its error is the greatest one of the dots in the columns that both have"
    private static void promise18TheColumnsThatBothHave() {
        for (int overlap = 1; overlap <= 3; overlap++) {
            int step = 7 - overlap;
            for (int c = 0; c < 16; c++) {
                StitchBanner x = shop(16, 7, overlap, 40);
                x.put(0, 0, 0);
                x.put(0, 1, 1);
                x.put(0, 2, 2);
                x.pass(7);
                x.fill(0, 3, c, c + 1, 9);
                boolean isOfBoth = c >= step && c < 7;
                boolean isOfNext = c >= 2 * step && c < step + 7;
                Check.due("18: overlap " + overlap + ", an error at " + c, isOfBoth ? 9 : 0, () -> x.seam(0, 0));
                Check.due("18: overlap " + overlap + ", an error at " + c + ", next", isOfNext ? 9 : 0,
                    () -> x.seam(0, 1));
            }
        }
    }

    // "without overlap, in the last column of the first and the first column of the second"
    private static void promise18WithoutOverlap() {
        for (int c = 0; c < 12; c++) {
            StitchBanner x = shop(12, 4, 0, 40);
            printAll(x, 3, 0);
            x.fill(0, 3, c, c + 1, 9);
            Check.due("18: no overlap, an error at " + c, c == 3 || c == 4 ? 9 : 0, () -> x.seam(0, 0));
            Check.due("18: no overlap, an error at " + c + ", next", c == 7 || c == 8 ? 9 : 0, () -> x.seam(0, 1));
        }
    }

    // "or those that there are"
    private static void promise18ALastStripOfOneColumn() {
        for (int c = 0; c < 5; c++) {
            StitchBanner x = shop(5, 2, 0, 40);
            printAll(x, 3, 0);
            x.fill(0, 3, c, c + 1, 9);
            Check.due("18: an error at " + c + " of five", c == 3 || c == 4 ? 9 : 0, () -> x.seam(0, 1));
        }
        for (int c = 0; c < 13; c++) {
            StitchBanner x = shop(13, 12, 3, 40);
            printAll(x, 2, 0);
            x.fill(0, 3, c, c + 1, 9);
            Check.due("18: an error at " + c + " of thirteen", c >= 9 && c < 12 ? 9 : 0, () -> x.seam(0, 0));
        }
    }

    private static void promise18TheGreatestOfAllRows() {
        for (int row = 0; row < 8; row++) {
            StitchBanner x = shop(4, 2, 0, 40);
            printAll(x, 2, 0);
            x.fill(0, 7 - row, 1, 2, 3);
            x.fill(0, row, 2, 3, 5);
            Check.due("18: the greatest in row " + row, 5, () -> x.seam(0, 0));
            x.fill(0, row, 1, 2, 6);
            Check.due("18: the greatest in row " + row + ", left", 6, () -> x.seam(0, 0));
        }
    }

    private static void promise18FromNoErrorToTheGreatest() {
        StitchBanner x = shop(4, 2, 0, 40);
        x.setGain(0, 200);
        fillAll(x, 4, 15);
        printAll(x, 2, 0);
        Check.due("18: ink 30 on the level 15", 15, () -> x.seam(0, 0));
        fillAll(x, 4, 0);
        Check.due("18: ink 30 on the level 0", 30, () -> x.seam(0, 0));
        StitchBanner y = shop(7, 4, 1, 40);
        y.setGain(0, 50);
        y.match(0);
        y.setGain(0, 200);
        fillAll(y, 7, 15);
        printAll(y, 2, 0);
        fillAll(y, 7, 0);
        Check.due("18: ink 40 on the level 0", 40, () -> y.seam(0, 0));
        StitchBanner z = shop(4, 2, 0, 40);
        printAll(z, 2, 0);
        Check.due("18: ink 0 on the level 0", 0, () -> z.seam(0, 0));
        fillAll(z, 4, 15);
        Check.due("18: ink 0 on the level 15", 15, () -> z.seam(0, 0));
    }

    // "the size of the difference of its ink and its level": the ink is at most the limit
    private static void promise18InkIsCutByTheLimitFirst() {
        StitchBanner x = shop(4, 2, 0, 4);
        fillAll(x, 4, 15);
        printAll(x, 2, 0);
        Check.due("18: ink 4 on the level 15", 11, () -> x.seam(0, 0));
        Check.due("19: ink 4 on the level 15", 11f, () -> x.meanError(0));
        fillAll(x, 4, 4);
        Check.due("18: ink 4 on the level 4", 0, () -> x.seam(0, 0));
        fillAll(x, 4, 0);
        Check.due("18: ink 4 on the level 0", 4, () -> x.seam(0, 0));
    }

    // "IndexOutOfBoundsException if there is no such banner"
    private static void promise19ABanner() {
        StitchBanner x = shop(4, 2, 0, 40);
        x.begin(4, 2, 0, 40, 0);
        for (int banner : Check.outside(0, 1)) {
            Check.index("19: banner " + banner + " of two", () -> x.meanError(banner));
        }
        x.fill(1, 0, 0, 4, 8);
        Check.due("19: banner 0 of two", 0f, () -> x.meanError(0));
        Check.due("19: banner 1 of two", 1f, () -> x.meanError(1));
    }

    private static void promise19NoError() {
        StitchBanner x = shop(32, 12, 0, 40);
        Check.due("19: at first", 0f, () -> x.meanError(0));
        fillAll(x, 32, 15);
        printAll(x, 3, 0);
        Check.due("19: printed just so", 0f, () -> x.meanError(0));
    }

    // "the sum of the errors of all dots"
    private static void promise19AllDotsAreCounted() {
        StitchBanner x = shop(32, 12, 3, 40);
        int sum = 0;
        for (int row = 0; row < 8; row++) {
            for (int column = row * 3; column < 32; column += 7) {
                x.fill(0, row, column, column + 1, 1);
                sum++;
                float due = (float) sum / 256f;
                Check.due("19: one more, row " + row + ", column " + column, due, () -> x.meanError(0));
            }
        }
        x.fill(0, 7, 31, 32, 15);
        float due = (float) (sum + 15) / 256f;
        Check.due("19: the last dot", due, () -> x.meanError(0));
    }

    private static void promise19TheGreatest() {
        StitchBanner x = shop(32, 12, 0, 40);
        fillAll(x, 32, 15);
        Check.due("19: nothing printed on the level 15", 15f, () -> x.meanError(0));
        x.setGain(0, 200);
        printAll(x, 3, 0);
        Check.due("19: ink 30 on the level 15", 15f, () -> x.meanError(0));
        fillAll(x, 32, 0);
        Check.due("19: ink 30 on the level 0", 30f, () -> x.meanError(0));
    }

    // "the size of the difference"
    private static void promise19SizesDoNotCancel() {
        StitchBanner x = shop(4, 4, 0, 40);
        x.fill(0, 0, 0, 1, 4);
        printAll(x, 1, 0);
        x.fill(0, 0, 0, 1, 0);
        x.fill(0, 0, 1, 2, 4);
        Check.due("19: 4 too much and 4 too little", 0.25f, () -> x.meanError(0));
    }

    // "as a float, divided by the number of dots, as a float"
    private static void promise19DividedAsFloats() {
        for (int columns = 4; columns <= 32; columns++) {
            StitchBanner x = shop(columns, 12, 3, 40);
            int[] sums = {1, 2, 5, 13, 15};
            for (int sum : sums) {
                x.fill(0, 7, columns - 1, columns, sum);
                float due = (float) sum / (float) (8 * columns);
                Check.due("19: " + sum + " by " + 8 * columns, due, () -> x.meanError(0));
            }
            x.fill(0, 0, 0, columns, 15);
            float due = (float) (15 * columns + 15) / (float) (8 * columns);
            Check.due("19: a row and a dot of " + columns, due, () -> x.meanError(0));
        }
    }
}
