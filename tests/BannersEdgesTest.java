/** Promises 1 to 5, boundary cases: one test for each sentence of the document that names one. */
public final class BannersEdgesTest {
    public static void main(String[] args) {
        promise1WithoutBanners();
        promise1AtTheTime0();
        promise1PrintersAtFirst();
        promise1EachObjectHasItsOwn();
        promise2Columns4To32();
        promise2EveryColumnThatThereIs();
        promise2EightRows();
        promise2Width2To12();
        promise2Overlap0To3();
        promise2TwiceTheOverlapIsLessThanTheWidth();
        promise2Limit1To40();
        promise2Due0To10000();
        promise2NumberedFrom0();
        promise2AtMostFive();
        promise2ArgumentGoesBeforeState();
        promise2LevelsAre0AtFirst();
        promise3ABanner();
        promise3Row0To7();
        promise3FromIsAColumn();
        promise3EndIsAtLeastFromAnd1();
        promise3EndIsAtMostTheColumns();
        promise3EndIsTheColumnBehind();
        promise3Level0To15();
        promise3DotsThatGetAnotherLevel();
        promise3IndexGoesFirst();
        promise4ABanner();
        promise4UntilOneHasTheLastColumn();
        promise4FewestAndMost();
        promise5ABannerAndAStrip();
        promise5Row0To7();
        promise5AColumnOfTheBanner();
        promise5NothingInAColumnThatItDoesNotHave();
        promise5StripKBeginsAtKTimesTheStep();
        promise5HalvesUpAndDown();
        promise5TheLastStripHasTheColumnsThatThereAre();
        promise5NoHalvesWithoutOverlap();
        promise5ASingleStripHasNoHalves();
        Check.end();
    }

    private static StitchBanner shop(int columns, int width, int overlap) {
        StitchBanner x = new StitchBanner();
        x.begin(columns, width, overlap, 40, 0);
        return x;
    }

    // "Creates a shop without banners"
    private static void promise1WithoutBanners() {
        StitchBanner x = new StitchBanner();
        Check.index("1: fill without banners", () -> x.fill(0, 0, 0, 1, 0));
        Check.index("1: strips without banners", () -> x.strips(0));
        Check.index("1: toLay without banners", () -> x.toLay(0, 0, 0, 0));
        Check.index("1: put without banners", () -> x.put(0, 0, 0));
        Check.index("1: dry without banners", () -> x.dry(0, 0));
        Check.index("1: ink without banners", () -> x.ink(0, 0, 0));
        Check.index("1: spilt without banners", () -> x.spilt(0));
        Check.index("1: used without banners", () -> x.used(true, 0));
        Check.index("1: seam without banners", () -> x.seam(0, 0));
        Check.index("1: meanError without banners", () -> x.meanError(0));
        Check.due("1: pass without banners", 0, () -> x.pass(200));
        Check.due("1: the first banner", 0, () -> x.begin(4, 2, 0, 1, 0));
    }

    // "at the time 0"
    private static void promise1AtTheTime0() {
        StitchBanner x = shop(4, 2, 0);
        x.put(0, 1, 0);
        x.pass(2);
        Check.due("1: two ticks behind the time 0", 2, () -> x.dry(0, 1));
    }

    // "A printer has a gain in hundredths, 100 at first, a correction in hundredths, 100 at first, and 8 nozzles"
    private static void promise1PrintersAtFirst() {
        for (int p = 0; p < 3; p++) {
            int printer = p;
            StitchBanner x = new StitchBanner();
            for (int l = 0; l <= 15; l++) {
                int level = l;
                for (int r = 0; r < 8; r++) {
                    int row = r;
                    Check.due("1: gain and correction 100, no nozzle blocked", level,
                        () -> x.patch(printer, row, level));
                }
            }
            Check.due("1: prints nothing", 0, () -> x.prints(printer));
            Check.due("1: has used nothing", 0, () -> x.used(false, printer));
            Check.due("1: gain 100", 100, () -> x.setGain(printer, 200));
            Check.due("1: correction 100, gain 200", 30, () -> x.patch(printer, 0, 15));
            Check.due("1: no nozzle blocked", 1, () -> x.block(printer, 0));
            x.begin(4, 2, 0, 1, 0);
            Check.due("1: nothing in the queue", 1, () -> x.put(0, 0, printer));
        }
    }

    private static void promise1EachObjectHasItsOwn() {
        StitchBanner x = shop(4, 2, 0);
        x.setGain(0, 200);
        x.block(1, 3);
        x.clean(2);
        x.put(0, 0, 0);
        x.pass(1);
        StitchBanner y = new StitchBanner();
        Check.index("1: no banner of another object", () -> y.strips(0));
        Check.due("1: no gain of another object", 100, () -> y.setGain(0, 100));
        Check.due("1: no nozzle of another object", 0, () -> y.clean(1));
        Check.due("1: no ink of another object", 0, () -> y.used(false, 2));
        Check.due("1: no strip of another object", 0, () -> y.prints(0));
    }

    // "columns: 4 to 32"
    private static void promise2Columns4To32() {
        StitchBanner x = new StitchBanner();
        for (int columns : Check.outside(4, 32)) {
            Check.argument("2: columns " + columns, () -> x.begin(columns, 2, 0, 1, 0));
        }
        Check.argument("2: columns 0", () -> x.begin(0, 2, 0, 1, 0));
        Check.due("2: columns 4", 0, () -> x.begin(4, 2, 0, 1, 0));
        Check.due("2: columns 32", 1, () -> x.begin(32, 2, 0, 1, 0));
    }

    private static void promise2EveryColumnThatThereIs() {
        for (int c = 4; c <= 32; c++) {
            int columns = c;
            StitchBanner x = shop(columns, 12, 3);
            Check.due("2: first column of " + c, 0, () -> x.ink(0, 0, 0));
            Check.due("2: last column of " + c, 0, () -> x.ink(0, 0, columns - 1));
            Check.index("2: behind the last column of " + c, () -> x.ink(0, 0, columns));
            Check.due("2: a whole row of " + c, columns, () -> x.fill(0, 0, 0, columns, 1));
        }
    }

    // "A banner has 8 rows"
    private static void promise2EightRows() {
        StitchBanner x = shop(4, 2, 0);
        for (int r = 0; r < 8; r++) {
            int row = r;
            Check.due("2: row " + r, 0, () -> x.ink(0, row, 0));
        }
        Check.index("2: row 8", () -> x.ink(0, 8, 0));
        Check.index("2: row -1", () -> x.ink(0, -1, 0));
    }

    // "width: 2 to 12"
    private static void promise2Width2To12() {
        StitchBanner x = new StitchBanner();
        for (int width : Check.outside(2, 12)) {
            Check.argument("2: width " + width, () -> x.begin(32, width, 0, 1, 0));
        }
        Check.argument("2: width 0", () -> x.begin(32, 0, 0, 1, 0));
        Check.due("2: width 2", 0, () -> x.begin(32, 2, 0, 1, 0));
        Check.due("2: width 12", 1, () -> x.begin(32, 12, 0, 1, 0));
        Check.due("2: wider than the banner", 2, () -> x.begin(4, 12, 0, 1, 0));
    }

    // "overlap: 0 to 3"
    private static void promise2Overlap0To3() {
        StitchBanner x = new StitchBanner();
        for (int overlap : Check.outside(0, 3)) {
            Check.argument("2: overlap " + overlap, () -> x.begin(32, 12, overlap, 1, 0));
        }
        Check.due("2: overlap 0", 0, () -> x.begin(32, 12, 0, 1, 0));
        Check.due("2: overlap 3", 1, () -> x.begin(32, 12, 3, 1, 0));
    }

    // "and twice of it less than the width"
    private static void promise2TwiceTheOverlapIsLessThanTheWidth() {
        for (int w = 2; w <= 12; w++) {
            for (int o = -1; o <= 6; o++) {
                int width = w;
                int overlap = o;
                boolean isRight = o >= 0 && o <= 3 && o + o < w;
                Object due = isRight ? (Object) 0 : IllegalArgumentException.class;
                StitchBanner x = new StitchBanner();
                Check.due("2: overlap " + o + " of width " + w, due, () -> x.begin(32, width, overlap, 1, 0));
            }
        }
        StitchBanner x = new StitchBanner();
        Check.argument("2: twice of it wraps round to 0", () -> x.begin(32, 12, 1 << 31, 1, 0));
        Check.argument("2: twice of it wraps round to 2", () -> x.begin(32, 12, (1 << 31) + 1, 1, 0));
        Check.argument("2: twice of it wraps round below 0", () -> x.begin(32, 12, 1 << 30, 1, 0));
    }

    // "limit: 1 to 40"
    private static void promise2Limit1To40() {
        StitchBanner x = new StitchBanner();
        for (int limit : Check.outside(1, 40)) {
            Check.argument("2: limit " + limit, () -> x.begin(4, 2, 0, limit, 0));
        }
        Check.due("2: limit 1", 0, () -> x.begin(4, 2, 0, 1, 0));
        Check.due("2: limit 40", 1, () -> x.begin(4, 2, 0, 40, 0));
    }

    // "due: 0 to 10000"
    private static void promise2Due0To10000() {
        StitchBanner x = new StitchBanner();
        for (int due : Check.outside(0, 10000)) {
            Check.argument("2: due " + due, () -> x.begin(4, 2, 0, 1, due));
        }
        Check.due("2: due 0", 0, () -> x.begin(4, 2, 0, 1, 0));
        Check.due("2: due 10000", 1, () -> x.begin(4, 2, 0, 1, 10000));
    }

    // "Banners are numbered from 0"
    private static void promise2NumberedFrom0() {
        StitchBanner x = new StitchBanner();
        for (int n = 0; n < 5; n++) {
            int number = n;
            Check.index("2: no banner " + n + " yet", () -> x.strips(number));
            Check.due("2: its number is " + n, number, () -> x.begin(4 + number, 2, 0, 1, 0));
            Check.due("2: banner " + n + " is there", (4 + n + 1) / 2, () -> x.strips(number));
        }
    }

    // "at most 5", "IllegalStateException if there are 5 banners"
    private static void promise2AtMostFive() {
        StitchBanner x = new StitchBanner();
        for (int n = 0; n < 4; n++) {
            x.begin(4, 2, 0, 1, 0);
        }
        Check.due("2: the fifth", 4, () -> x.begin(8, 2, 0, 1, 0));
        Check.state("2: a sixth", () -> x.begin(32, 2, 0, 1, 0));
        Check.state("2: a sixth again", () -> x.begin(4, 12, 3, 40, 10000));
        Check.due("2: the first stands", 2, () -> x.strips(0));
        Check.due("2: the fifth stands", 4, () -> x.strips(4));
        Check.index("2: no sixth", () -> x.strips(5));
    }

    // "If several apply, ... IllegalArgumentException" goes before IllegalStateException
    private static void promise2ArgumentGoesBeforeState() {
        StitchBanner x = new StitchBanner();
        for (int n = 0; n < 5; n++) {
            x.begin(4, 2, 0, 1, 0);
        }
        for (int end = 0; end < 4; end++) {
            int columns = Check.outside(4, 32)[end];
            int width = Check.outside(2, 12)[end];
            int overlap = Check.outside(0, 3)[end];
            int limit = Check.outside(1, 40)[end];
            int due = Check.outside(0, 10000)[end];
            Check.argument("2: five, columns " + columns, () -> x.begin(columns, 2, 0, 1, 0));
            Check.argument("2: five, width " + width, () -> x.begin(4, width, 0, 1, 0));
            Check.argument("2: five, overlap " + overlap, () -> x.begin(4, 12, overlap, 1, 0));
            Check.argument("2: five, limit " + limit, () -> x.begin(4, 2, 0, limit, 0));
            Check.argument("2: five, due " + due, () -> x.begin(4, 2, 0, 1, due));
        }
        Check.argument("2: five, twice the overlap is the width", () -> x.begin(4, 2, 1, 1, 0));
        Check.state("2: five, all arguments right", () -> x.begin(4, 2, 0, 1, 0));
    }

    // "a dot has a level from 0 to 15, 0 at first"
    private static void promise2LevelsAre0AtFirst() {
        StitchBanner x = shop(32, 12, 3);
        for (int r = 0; r < 8; r++) {
            int row = r;
            Check.due("2: row " + r + " has the level 0", 0, () -> x.fill(0, row, 0, 32, 0));
            Check.due("2: row " + r + " is to be laid with 0", 0, () -> x.toLay(0, 0, row, 0));
        }
        Check.due("2: no error of no ink on the level 0", 0f, () -> x.meanError(0));
    }

    // "banner: a banner"
    private static void promise3ABanner() {
        StitchBanner x = shop(4, 2, 0);
        x.begin(4, 2, 0, 1, 0);
        for (int banner : Check.outside(0, 1)) {
            Check.index("3: banner " + banner + " of two", () -> x.fill(banner, 0, 0, 1, 1));
        }
        Check.due("3: banner 1 of two", 1, () -> x.fill(1, 0, 0, 1, 1));
        Check.due("3: banner 0 of two", 1, () -> x.fill(0, 0, 0, 1, 1));
    }

    // "row: 0 to 7"
    private static void promise3Row0To7() {
        StitchBanner x = shop(4, 2, 0);
        for (int row : Check.outside(0, 7)) {
            Check.index("3: row " + row, () -> x.fill(0, row, 0, 1, 1));
        }
        for (int r = 0; r < 8; r++) {
            int row = r;
            Check.due("3: row " + r, 1, () -> x.fill(0, row, 0, 1, 1));
            Check.due("3: row " + r + " is filled", 1, () -> x.toLay(0, 0, row, 0));
        }
    }

    // "from: a column"
    private static void promise3FromIsAColumn() {
        int[] sizes = {4, 31, 32};
        for (int columns : sizes) {
            StitchBanner x = shop(columns, 2, 0);
            for (int from : Check.outside(0, columns - 1)) {
                Check.index("3: from " + from + " of " + columns, () -> x.fill(0, 0, from, columns, 1));
                Check.index("3: from " + from + " of " + columns + ", end behind it",
                    () -> x.fill(0, 0, from, from + 1, 1));
            }
            Check.due("3: from the first of " + columns, 1, () -> x.fill(0, 0, 0, 1, 1));
            Check.due("3: from the last of " + columns, 1, () -> x.fill(0, 0, columns - 1, columns, 1));
        }
    }

    // "end: ... from + 1 up to"
    private static void promise3EndIsAtLeastFromAnd1() {
        StitchBanner x = shop(8, 2, 0);
        for (int f = 0; f < 8; f++) {
            int from = f;
            Check.argument("3: from and end " + f, () -> x.fill(0, 0, from, from, 1));
            Check.argument("3: end before from " + f, () -> x.fill(0, 0, from, from - 1, 1));
            Check.argument("3: far end, from " + f, () -> x.fill(0, 0, from, Integer.MIN_VALUE, 1));
            Check.due("3: a single dot at " + f, 1, () -> x.fill(0, 0, from, from + 1, 1));
        }
        Check.argument("3: end 0", () -> x.fill(0, 0, 7, 0, 2));
    }

    // "up to the number of columns"
    private static void promise3EndIsAtMostTheColumns() {
        int[] sizes = {4, 31, 32};
        for (int columns : sizes) {
            StitchBanner x = shop(columns, 2, 0);
            for (int f = 0; f < columns; f++) {
                int from = f;
                Check.argument("3: end behind " + columns, () -> x.fill(0, 0, from, columns + 1, 1));
            }
            Check.argument("3: far end of " + columns, () -> x.fill(0, 0, 0, Integer.MAX_VALUE, 1));
            Check.due("3: end at " + columns, columns, () -> x.fill(0, 0, 0, columns, 1));
        }
    }

    // "the column behind the last one"
    private static void promise3EndIsTheColumnBehind() {
        StitchBanner x = shop(8, 8, 0);
        x.fill(0, 3, 2, 5, 9);
        int[] due = {0, 0, 9, 9, 9, 0, 0, 0};
        for (int c = 0; c < 8; c++) {
            int column = c;
            Check.due("3: column " + c, due[c], () -> x.toLay(0, 0, 3, column));
            Check.due("3: column " + c + " in the row above", 0, () -> x.toLay(0, 0, 2, column));
            Check.due("3: column " + c + " in the row below", 0, () -> x.toLay(0, 0, 4, column));
        }
        StitchBanner y = shop(32, 12, 0);
        y.fill(0, 3, 31, 32, 9);
        Check.due("3: the next row's first column", 0, () -> y.toLay(0, 0, 4, 0));
    }

    // "level: 0 to 15"
    private static void promise3Level0To15() {
        StitchBanner x = shop(4, 2, 0);
        for (int level : Check.outside(0, 15)) {
            Check.argument("3: level " + level, () -> x.fill(0, 0, 0, 1, level));
        }
        for (int l = 15; l >= 0; l--) {
            int level = l;
            Check.due("3: level " + l, 1, () -> x.fill(0, 0, 0, 1, level));
            Check.due("3: level " + l + " is set", level, () -> x.toLay(0, 0, 0, 0));
        }
    }

    // "Returns how many dots get another level"
    private static void promise3DotsThatGetAnotherLevel() {
        StitchBanner x = shop(32, 2, 0);
        Check.due("3: none", 0, () -> x.fill(0, 0, 0, 32, 0));
        Check.due("3: all", 32, () -> x.fill(0, 0, 0, 32, 15));
        Check.due("3: none again", 0, () -> x.fill(0, 0, 0, 32, 15));
        Check.due("3: the first", 1, () -> x.fill(0, 0, 0, 1, 14));
        Check.due("3: the last", 1, () -> x.fill(0, 0, 31, 32, 14));
        Check.due("3: those between", 30, () -> x.fill(0, 0, 0, 32, 14));
    }

    // "If several apply, IndexOutOfBoundsException goes first, then IllegalArgumentException"
    private static void promise3IndexGoesFirst() {
        StitchBanner x = shop(4, 2, 0);
        int[] wrongLevels = Check.outside(0, 15);
        for (int level : wrongLevels) {
            Check.index("3: banner before level " + level, () -> x.fill(1, 0, 0, 1, level));
            Check.index("3: row before level " + level, () -> x.fill(0, 8, 0, 1, level));
            Check.index("3: from before level " + level, () -> x.fill(0, 0, 4, 5, level));
        }
        for (int end : Check.outside(1, 4)) {
            Check.index("3: banner before end " + end, () -> x.fill(-1, 0, 0, end, 1));
            Check.index("3: row before end " + end, () -> x.fill(0, -1, 0, end, 1));
            Check.index("3: from before end " + end, () -> x.fill(0, 0, -1, end, 1));
            Check.argument("3: end and level " + end, () -> x.fill(0, 0, 0, end, 16));
        }
        Check.index("3: from + 1 wraps round", () -> x.fill(0, 0, Integer.MAX_VALUE, 4, 1));
        Check.due("3: nothing was filled", 0, () -> x.fill(0, 0, 0, 4, 0));
    }

    // "banner: a banner"
    private static void promise4ABanner() {
        StitchBanner x = shop(4, 2, 0);
        for (int banner : Check.outside(0, 0)) {
            Check.index("4: banner " + banner + " of one", () -> x.strips(banner));
        }
        for (int n = 1; n < 5; n++) {
            x.begin(4 + 2 * n, 2, 0, 1, 0);
        }
        for (int banner : Check.outside(0, 4)) {
            Check.index("4: banner " + banner + " of five", () -> x.strips(banner));
        }
        for (int n = 0; n < 5; n++) {
            int number = n;
            Check.due("4: banner " + n + " of five", 2 + n, () -> x.strips(number));
        }
    }

    // "strips go on until one has the last column"
    private static void promise4UntilOneHasTheLastColumn() {
        for (int w = 2; w <= 12; w++) {
            for (int o = 0; o <= 3 && o + o < w; o++) {
                for (int columns = 4; columns <= 32; columns++) {
                    int due = 1;
                    for (int behind = w; behind < columns; behind += w - o) {
                        due++;
                    }
                    StitchBanner x = shop(columns, w, o);
                    Check.due("4: " + columns + " by " + w + " over " + o, due, () -> x.strips(0));
                }
            }
        }
    }

    private static void promise4FewestAndMost() {
        Check.due("4: as wide as the banner", 1, () -> shop(12, 12, 0).strips(0));
        Check.due("4: one column more than a strip", 2, () -> shop(13, 12, 0).strips(0));
        Check.due("4: one column more, with overlap", 2, () -> shop(13, 12, 3).strips(0));
        Check.due("4: up to the second's end, with overlap", 2, () -> shop(21, 12, 3).strips(0));
        Check.due("4: one column more than two, with overlap", 3, () -> shop(22, 12, 3).strips(0));
        Check.due("4: the most", 16, () -> shop(32, 2, 0).strips(0));
        Check.due("4: the most with overlap", 16, () -> shop(32, 3, 1).strips(0));
        Check.due("4: the narrowest last one", 16, () -> shop(31, 2, 0).strips(0));
    }

    // "IndexOutOfBoundsException if there is no such banner, strip"
    private static void promise5ABannerAndAStrip() {
        StitchBanner x = shop(32, 2, 0);
        x.begin(4, 4, 0, 1, 0);
        for (int banner : Check.outside(0, 1)) {
            Check.index("5: banner " + banner + " of two", () -> x.toLay(banner, 0, 0, 0));
        }
        for (int strip : Check.outside(0, 15)) {
            Check.index("5: strip " + strip + " of sixteen", () -> x.toLay(0, strip, 0, 0));
        }
        for (int strip : Check.outside(0, 0)) {
            Check.index("5: strip " + strip + " of one", () -> x.toLay(1, strip, 0, 0));
        }
        Check.due("5: strip 15 of sixteen", 0, () -> x.toLay(0, 15, 0, 31));
        Check.due("5: strip 0 of one", 0, () -> x.toLay(1, 0, 0, 3));
    }

    // "row: 0 to 7"
    private static void promise5Row0To7() {
        StitchBanner x = shop(4, 4, 0);
        for (int row : Check.outside(0, 7)) {
            Check.index("5: row " + row, () -> x.toLay(0, 0, row, 0));
        }
        Check.index("5: row -1 with a column behind", () -> x.toLay(0, 0, -1, 32));
        x.fill(0, 0, 0, 4, 3);
        x.fill(0, 7, 0, 4, 5);
        Check.due("5: row 0", 3, () -> x.toLay(0, 0, 0, 0));
        Check.due("5: row 7", 5, () -> x.toLay(0, 0, 7, 3));
    }

    // "column: a column of the banner"
    private static void promise5AColumnOfTheBanner() {
        int[] sizes = {4, 31, 32};
        for (int columns : sizes) {
            StitchBanner x = shop(columns, 2, 0);
            x.fill(0, 1, 0, columns, 6);
            for (int column : Check.outside(0, columns - 1)) {
                Check.index("5: column " + column + " of " + columns, () -> x.toLay(0, 0, 0, column));
            }
            Check.due("5: the first column of " + columns, 6, () -> x.toLay(0, 0, 1, 0));
            Check.due("5: the last column of " + columns, 6, () -> x.toLay(0, (columns - 1) / 2, 1, columns - 1));
        }
    }

    // "0 in a column that the strip does not have"
    private static void promise5NothingInAColumnThatItDoesNotHave() {
        StitchBanner x = shop(20, 8, 2);
        x.fill(0, 0, 0, 20, 15);
        Check.due("5: behind the first strip", 0, () -> x.toLay(0, 0, 0, 8));
        Check.due("5: the last column, first strip", 0, () -> x.toLay(0, 0, 0, 19));
        Check.due("5: before the second strip", 0, () -> x.toLay(0, 1, 0, 5));
        Check.due("5: behind the second strip", 0, () -> x.toLay(0, 1, 0, 14));
        Check.due("5: before the third strip", 0, () -> x.toLay(0, 2, 0, 11));
        Check.due("5: the first column, third strip", 0, () -> x.toLay(0, 2, 0, 0));
    }

    // "the strip k begins at the column k * (width - overlap), and has as many columns as the width"
    private static void promise5StripKBeginsAtKTimesTheStep() {
        for (int o = 0; o <= 3; o++) {
            int step = 7 - o;
            StitchBanner x = shop(32, 7, o);
            x.fill(0, 0, 0, 32, 2);
            for (int s = 0; s < 4; s++) {
                int strip = s;
                Check.due("5: first column of strip " + s, s == 0 || o == 0 ? 2 : 1,
                    () -> x.toLay(0, strip, 0, strip * step));
                Check.due("5: last column of strip " + s, o == 0 ? 2 : 1,
                    () -> x.toLay(0, strip, 0, strip * step + 6));
                Check.due("5: column behind strip " + s, 0, () -> x.toLay(0, strip, 0, strip * step + 7));
                Check.due("5: column before strip " + s, 0,
                    () -> strip == 0 ? 0 : x.toLay(0, strip, 0, strip * step - 1));
            }
        }
    }

    // "the left one the half of the level, rounded up, and the right one the half, rounded down"
    private static void promise5HalvesUpAndDown() {
        StitchBanner x = shop(12, 7, 3);
        for (int l = 0; l <= 15; l++) {
            int level = l;
            x.fill(0, 4, 0, 12, level);
            for (int c = 4; c <= 6; c++) {
                int column = c;
                Check.due("5: left half of " + l + " at " + c, (l + 1) / 2, () -> x.toLay(0, 0, 4, column));
                Check.due("5: right half of " + l + " at " + c, l / 2, () -> x.toLay(0, 1, 4, column));
            }
            Check.due("5: all of " + l + " before the overlap", level, () -> x.toLay(0, 0, 4, 3));
            Check.due("5: all of " + l + " behind the overlap", level, () -> x.toLay(0, 1, 4, 7));
            Check.due("5: all of " + l + " in the next strip's overlap", (l + 1) / 2, () -> x.toLay(0, 1, 4, 8));
        }
    }

    // "or those that there are"
    private static void promise5TheLastStripHasTheColumnsThatThereAre() {
        StitchBanner x = shop(12, 7, 3);
        x.fill(0, 0, 0, 12, 9);
        int[] due = {0, 0, 0, 0, 0, 0, 0, 0, 4, 4, 4, 9};
        for (int c = 0; c < 12; c++) {
            int column = c;
            Check.due("5: the last strip, column " + c, due[c], () -> x.toLay(0, 2, 0, column));
        }
        StitchBanner y = shop(9, 4, 0);
        y.fill(0, 0, 0, 9, 9);
        Check.due("5: a last strip of one column", 9, () -> y.toLay(0, 2, 0, 8));
        Check.due("5: before it", 0, () -> y.toLay(0, 2, 0, 7));
    }

    private static void promise5NoHalvesWithoutOverlap() {
        StitchBanner x = shop(8, 4, 0);
        x.fill(0, 0, 0, 8, 15);
        Check.due("5: the last column of the left strip", 15, () -> x.toLay(0, 0, 0, 3));
        Check.due("5: the first column of the right strip", 15, () -> x.toLay(0, 1, 0, 4));
        Check.due("5: the right strip at the left one's last", 0, () -> x.toLay(0, 1, 0, 3));
        Check.due("5: the left strip at the right one's first", 0, () -> x.toLay(0, 0, 0, 4));
    }

    private static void promise5ASingleStripHasNoHalves() {
        StitchBanner x = shop(12, 12, 3);
        x.fill(0, 0, 0, 12, 15);
        for (int c = 0; c < 12; c++) {
            int column = c;
            Check.due("5: a single strip, column " + c, 15, () -> x.toLay(0, 0, 0, column));
        }
        StitchBanner y = shop(13, 12, 3);
        y.fill(0, 0, 0, 13, 15);
        Check.due("5: the first of two, its first column", 15, () -> y.toLay(0, 0, 0, 0));
        Check.due("5: the last of two, its last column", 15, () -> y.toLay(0, 1, 0, 12));
    }
}
