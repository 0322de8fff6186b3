/** Promises 11 to 14, boundary cases: one test for each sentence of the document that names one. */
public final class PrintingEdgesTest {
    public static void main(String[] args) {
        promise11ABannerAStripAndAPrinter();
        promise11EveryStripThatThereIs();
        promise11IndexGoesFirst();
        promise11NotWhileInAQueue();
        promise11NotWhileBeingPrinted();
        promise11NotBeforeItIsDry();
        promise11DryAtOnceIfItLaysNothing();
        promise11TheOneBeingPrintedIsNotCounted();
        promise11AsManyAsThereMayBe();
        promise12Ticks1To200();
        promise12NothingToPrint();
        promise12AsManyTicksAsTheStripHasColumns();
        promise12TheLastStripHasFewer();
        promise12OneBehindTheOther();
        promise12AllPrintersAtOnce();
        promise12ManyTicksOrOneByOne();
        promise12TheLastCallThatIsPromised();
        promise12GainCorrectionAndNozzlesOfThen();
        promise12ThePictureAsItIsThen();
        promise12ACappedDoseIsWhatIsHalved();
        promise12NozzlesAndHalvesOfTheLevels();
        promise12ItTakesThePlaceOfWhatItLaidBefore();
        promise13Printer0To2();
        promise13NothingBeforeATickBegins();
        promise13NothingBehindTheLastTick();
        promise13NumbersFromTheLeastToTheGreatest();
        promise13TheEarliestDueTime();
        promise13OfSeveralTheLowestBanner();
        promise13OfTheseTheLowestStrip();
        promise13WhatIsBeingPrintedGoesOn();
        promise14ABannerAndAStrip();
        promise14NotPrinted();
        promise14AsManyTicksLaterAsTheGreatestNumber();
        promise14From0To30TicksLater();
        promise14SpiltInkCountsToo();
        promise14TheLatestPrinting();
        Check.end();
    }

    private static StitchBanner shop(int columns, int width, int overlap) {
        StitchBanner x = new StitchBanner();
        x.begin(columns, width, overlap, 40, 0);
        return x;
    }

    // "IndexOutOfBoundsException if there is no such banner, strip or printer"
    private static void promise11ABannerAStripAndAPrinter() {
        StitchBanner x = shop(32, 2, 0);
        x.begin(4, 4, 0, 40, 0);
        for (int banner : Check.outside(0, 1)) {
            Check.index("11: banner " + banner + " of two", () -> x.put(banner, 0, 0));
        }
        for (int strip : Check.outside(0, 15)) {
            Check.index("11: strip " + strip + " of sixteen", () -> x.put(0, strip, 0));
        }
        for (int strip : Check.outside(0, 0)) {
            Check.index("11: strip " + strip + " of one", () -> x.put(1, strip, 0));
        }
        for (int printer : Check.outside(0, 2)) {
            Check.index("11: printer " + printer, () -> x.put(0, 0, printer));
        }
        Check.due("11: strip 15, printer 0", 1, () -> x.put(0, 15, 0));
        Check.due("11: banner 1, printer 2", 1, () -> x.put(1, 0, 2));
        Check.due("11: strip 0, printer 1", 1, () -> x.put(0, 0, 1));
    }

    private static void promise11EveryStripThatThereIs() {
        for (int c = 4; c <= 32; c++) {
            int last = (c + 1) / 2 - 1;
            StitchBanner x = shop(c, 2, 0);
            Check.index("11: behind the last strip of " + c, () -> x.put(0, last + 1, 0));
            Check.due("11: the last strip of " + c, 1, () -> x.put(0, last, 0));
        }
    }

    // "If several apply, IndexOutOfBoundsException goes first"
    private static void promise11IndexGoesFirst() {
        StitchBanner x = shop(4, 2, 0);
        x.put(0, 0, 0);
        for (int printer : Check.outside(0, 2)) {
            Check.index("11: in a queue, printer " + printer, () -> x.put(0, 0, printer));
        }
        x.pass(1);
        for (int printer : Check.outside(0, 2)) {
            Check.index("11: being printed, printer " + printer, () -> x.put(0, 0, printer));
        }
        x.fill(0, 0, 0, 1, 15);
        x.pass(1);
        for (int printer : Check.outside(0, 2)) {
            Check.index("11: not dry, printer " + printer, () -> x.put(0, 0, printer));
        }
        Check.state("11: not dry", () -> x.put(0, 0, 2));
    }

    // "IllegalStateException if this strip is in a queue"
    private static void promise11NotWhileInAQueue() {
        StitchBanner x = shop(4, 2, 0);
        x.begin(4, 2, 0, 40, 0);
        for (int p = 0; p < 3; p++) {
            int printer = p;
            Check.due("11: not in a queue", 1, () -> x.put(0, 0, printer));
            for (int q = 0; q < 3; q++) {
                int other = q;
                Check.state("11: in the queue of " + p + ", put to " + q, () -> x.put(0, 0, other));
            }
            Check.due("11: another strip", 2, () -> x.put(0, 1, printer));
            Check.due("11: the same strip of another banner", 3, () -> x.put(1, 0, printer));
            x.pass(6);
        }
    }

    // "or being printed"
    private static void promise11NotWhileBeingPrinted() {
        StitchBanner x = shop(24, 12, 0);
        x.put(0, 0, 1);
        for (int t = 1; t < 12; t++) {
            x.pass(1);
            for (int p = 0; p < 3; p++) {
                int printer = p;
                Check.state("11: being printed, tick " + t, () -> x.put(0, 0, printer));
            }
        }
        x.pass(1);
        Check.due("11: printed", 1, () -> x.put(0, 0, 2));
    }

    // "or the latest printing of it is not dry"
    private static void promise11NotBeforeItIsDry() {
        StitchBanner x = shop(4, 2, 0);
        x.fill(0, 7, 1, 2, 3);
        x.put(0, 0, 0);
        x.pass(2);
        for (int t = 0; t < 3; t++) {
            for (int p = 0; p < 3; p++) {
                int printer = p;
                Check.state("11: not dry, " + t + " ticks later", () -> x.put(0, 0, printer));
            }
            x.pass(1);
        }
        Check.due("11: dry 3 ticks later", 1, () -> x.put(0, 0, 0));
        x.fill(0, 7, 1, 2, 1);
        x.pass(2);
        Check.state("11: the second printing is not dry", () -> x.put(0, 0, 0));
        x.pass(1);
        Check.due("11: the second printing is dry", 1, () -> x.put(0, 0, 0));
    }

    private static void promise11DryAtOnceIfItLaysNothing() {
        StitchBanner x = shop(4, 2, 0);
        for (int round = 0; round < 3; round++) {
            Check.due("11: put", 1, () -> x.put(0, 0, 0));
            Check.due("11: printed", 1, () -> x.pass(2));
        }
    }

    // "Returns how many strips are in the queue then, the one that is being printed not counted"
    private static void promise11TheOneBeingPrintedIsNotCounted() {
        StitchBanner x = shop(16, 4, 0);
        Check.due("11: the first", 1, () -> x.put(0, 3, 0));
        x.pass(1);
        Check.due("11: beside the one being printed", 1, () -> x.put(0, 2, 0));
        Check.due("11: one more", 2, () -> x.put(0, 1, 0));
        x.pass(3);
        Check.due("11: none is being printed", 3, () -> x.put(0, 0, 0));
        x.pass(1);
        Check.due("11: one was taken", 3, () -> x.put(0, 3, 0));
        Check.state("11: the one taken", () -> x.put(0, 0, 0));
    }

    private static void promise11AsManyAsThereMayBe() {
        StitchBanner x = new StitchBanner();
        for (int b = 0; b < 5; b++) {
            x.begin(32, 2, 0, 40, 4 - b);
        }
        for (int i = 0; i < 80; i++) {
            int banner = i % 5;
            int strip = i / 5;
            Check.due("11: strip " + strip + " of banner " + banner, i + 1, () -> x.put(banner, strip, 1));
        }
        for (int i = 0; i < 80; i++) {
            x.pass(1);
            Check.due("13: the one in turn", 1000 * (4 - i / 16) + 10 * (i % 16) + 1, () -> x.prints(1));
            Check.due("12: it is printed", 1, () -> x.pass(1));
        }
        Check.due("12: all are printed", 0, () -> x.pass(200));
    }

    // "ticks: 1 to 200"
    private static void promise12Ticks1To200() {
        StitchBanner x = shop(4, 2, 0);
        x.put(0, 0, 0);
        for (int ticks : Check.outside(1, 200)) {
            Check.argument("12: ticks " + ticks, () -> x.pass(ticks));
        }
        Check.argument("12: ticks -1", () -> x.pass(-1));
        Check.due("12: no tick has begun", 0, () -> x.prints(0));
        Check.due("12: 1", 0, () -> x.pass(1));
        Check.due("12: one tick", 1, () -> x.prints(0));
        Check.due("12: 200", 1, () -> x.pass(200));
        x.put(0, 1, 0);
        x.pass(2);
        Check.due("12: 203 ticks in all", 203, () -> x.dry(0, 1));
    }

    private static void promise12NothingToPrint() {
        StitchBanner x = new StitchBanner();
        Check.due("12: no banner, least", 0, () -> x.pass(1));
        Check.due("12: no banner, most", 0, () -> x.pass(200));
        x.begin(4, 2, 0, 40, 0);
        Check.due("12: no strip in a queue", 0, () -> x.pass(200));
    }

    // "it takes as many ticks as the strip has columns"
    private static void promise12AsManyTicksAsTheStripHasColumns() {
        for (int w = 2; w <= 12; w++) {
            for (int o = 0; o <= 3 && o + o < w; o++) {
                StitchBanner x = shop(32, w, o);
                x.put(0, 0, 0);
                for (int t = 1; t < w; t++) {
                    Check.due("12: width " + w + ", tick " + t, 0, () -> x.pass(1));
                }
                Check.due("12: width " + w + ", the last tick", 1, () -> x.pass(1));
                Check.due("14: printed at the time " + w, w, () -> x.dry(0, 0));
            }
        }
    }

    // "or those that there are"
    private static void promise12TheLastStripHasFewer() {
        StitchBanner one = shop(13, 12, 0);
        one.put(0, 1, 0);
        Check.due("12: a last strip of one column", 1, () -> one.pass(1));
        StitchBanner two = shop(13, 12, 1);
        two.put(0, 1, 0);
        Check.due("12: a last strip of two columns, 1 tick", 0, () -> two.pass(1));
        Check.due("12: a last strip of two columns, 2 ticks", 1, () -> two.pass(1));
        StitchBanner four = shop(4, 12, 3);
        four.put(0, 0, 0);
        Check.due("12: a single strip of four columns, 3 ticks", 0, () -> four.pass(3));
        Check.due("12: a single strip of four columns, 4 ticks", 1, () -> four.pass(1));
        StitchBanner full = shop(12, 6, 0);
        full.put(0, 1, 0);
        Check.due("12: a last strip of the whole width, 5 ticks", 0, () -> full.pass(5));
        Check.due("12: a last strip of the whole width, 6 ticks", 1, () -> full.pass(1));
    }

    private static void promise12OneBehindTheOther() {
        StitchBanner x = shop(9, 4, 0);
        x.put(0, 0, 0);
        x.put(0, 1, 0);
        x.put(0, 2, 0);
        Check.due("12: two of three", 2, () -> x.pass(8));
        Check.due("12: the third", 1, () -> x.pass(1));
        Check.due("14: the first", 4, () -> x.dry(0, 0));
        Check.due("14: the second, no tick lost", 8, () -> x.dry(0, 1));
        Check.due("14: the third, no tick lost", 9, () -> x.dry(0, 2));
    }

    // "Returns how many strips are printed in them"
    private static void promise12AllPrintersAtOnce() {
        StitchBanner x = shop(6, 2, 0);
        for (int p = 0; p < 3; p++) {
            int printer = p;
            x.put(0, p, p);
            Check.due("13: not yet", 0, () -> x.prints(printer));
        }
        Check.due("12: begun at once", 0, () -> x.pass(1));
        for (int p = 0; p < 3; p++) {
            int printer = p;
            Check.due("13: printer " + p, 10 * p + 1, () -> x.prints(printer));
        }
        Check.due("12: ended at once", 3, () -> x.pass(1));
    }

    private static void promise12ManyTicksOrOneByOne() {
        StitchBanner at = shop(32, 5, 2);
        StitchBanner by = shop(32, 5, 2);
        for (int s = 0; s < 10; s++) {
            at.put(0, s, s % 3);
            by.put(0, s, s % 3);
        }
        int sum = 0;
        for (int t = 0; t < 200; t++) {
            sum += by.pass(1);
        }
        int due = sum;
        Check.due("12: 200 at once", due, () -> at.pass(200));
        Check.due("12: all of them", 10, () -> due);
        for (int s = 0; s < 10; s++) {
            int strip = s;
            Check.due("14: strip " + s, by.dry(0, s), () -> at.dry(0, strip));
        }
    }

    // "An object is used for at most 512 calls after it has been made"
    private static void promise12TheLastCallThatIsPromised() {
        StitchBanner x = new StitchBanner();
        for (int call = 1; call <= 507; call++) {
            x.pass(200);
        }
        x.begin(4, 2, 0, 40, 10000);
        x.fill(0, 0, 0, 1, 15);
        x.put(0, 0, 2);
        Check.due("12: the 511th call", 1, () -> x.pass(200));
        Check.due("14: the 512th call", 507 * 200 + 2 + 15, () -> x.dry(0, 0));
    }

    // "what it lays there is found by gain, correction and nozzles of then"
    private static void promise12GainCorrectionAndNozzlesOfThen() {
        StitchBanner x = shop(4, 4, 0);
        x.fill(0, 0, 0, 4, 6);
        x.fill(0, 5, 0, 4, 6);
        x.put(0, 0, 0);
        x.block(0, 5);
        x.setGain(0, 150);
        x.pass(3);
        x.setGain(0, 50);
        x.match(0);
        x.block(0, 0);
        x.setGain(0, 200);
        x.pass(1);
        // Twice 6 is 12 in row 0, which is blocked: 6 are lost above, and 6 go to row 1.
        Check.due("12: a nozzle of then", 0, () -> x.ink(0, 0, 0));
        Check.due("12: correction and gain of then", 12, () -> x.ink(0, 1, 0));
        Check.due("12: a nozzle that was blocked before", 0, () -> x.ink(0, 5, 3));
        Check.due("12: and the row above it", 12, () -> x.ink(0, 4, 3));
        Check.due("12: and the row below it", 12, () -> x.ink(0, 6, 3));
    }

    // "for the picture as it is then"
    private static void promise12ThePictureAsItIsThen() {
        StitchBanner x = shop(4, 4, 0);
        x.fill(0, 0, 0, 4, 6);
        x.put(0, 0, 0);
        x.pass(3);
        x.fill(0, 0, 0, 2, 0);
        x.fill(0, 0, 3, 4, 15);
        x.pass(1);
        x.fill(0, 0, 0, 4, 9);
        Check.due("12: a column begun long ago", 0, () -> x.ink(0, 0, 0));
        Check.due("12: a column that stayed", 6, () -> x.ink(0, 0, 2));
        Check.due("12: the last column", 15, () -> x.ink(0, 0, 3));
    }

    // "15 at most. Then what a blocked nozzle should lay goes half ... to the row above"
    private static void promise12ACappedDoseIsWhatIsHalved() {
        StitchBanner x = shop(4, 4, 0);
        x.fill(0, 3, 0, 1, 15);
        x.fill(0, 3, 1, 2, 7);
        x.fill(0, 3, 2, 3, 1);
        x.setGain(0, 50);
        x.match(0);
        x.setGain(0, 100);
        x.block(0, 3);
        x.put(0, 0, 0);
        x.pass(4);
        int[] above = {8, 7, 1, 0};
        int[] below = {7, 7, 1, 0};
        for (int c = 0; c < 4; c++) {
            int column = c;
            Check.due("12: the row above, column " + c, above[c], () -> x.ink(0, 2, column));
            Check.due("12: the row itself, column " + c, 0, () -> x.ink(0, 3, column));
            Check.due("12: the row below, column " + c, below[c], () -> x.ink(0, 4, column));
            Check.due("12: two rows above, column " + c, 0, () -> x.ink(0, 1, column));
            Check.due("12: two rows below, column " + c, 0, () -> x.ink(0, 5, column));
        }
    }

    // In a column that two strips have, the halves are what is corrected and goes to the neighbours
    private static void promise12NozzlesAndHalvesOfTheLevels() {
        StitchBanner x = shop(7, 4, 1);
        x.fill(0, 0, 3, 4, 15);
        x.fill(0, 7, 3, 4, 15);
        x.block(0, 0);
        x.block(1, 7);
        x.put(0, 0, 0);
        x.pass(4);
        Check.due("12: 8 of the left strip are blocked", 0, () -> x.ink(0, 0, 3));
        Check.due("12: 4 of them go below", 4, () -> x.ink(0, 1, 3));
        Check.due("12: 8 of the last row", 8, () -> x.ink(0, 7, 3));
        x.put(0, 1, 1);
        x.pass(4);
        Check.due("12: 7 of the right strip", 7, () -> x.ink(0, 0, 3));
        Check.due("12: 7 of its last row are blocked", 8, () -> x.ink(0, 7, 3));
        Check.due("12: 4 of them go above", 4, () -> x.ink(0, 6, 3));
    }

    // "it takes the place of what this strip laid before"
    private static void promise12ItTakesThePlaceOfWhatItLaidBefore() {
        StitchBanner x = shop(7, 4, 1);
        x.fill(0, 0, 0, 7, 15);
        x.put(0, 0, 0);
        x.put(0, 1, 1);
        x.pass(4);
        Check.due("12: both halves", 15, () -> x.ink(0, 0, 3));
        x.fill(0, 0, 0, 7, 1);
        x.pass(15);
        x.put(0, 1, 2);
        x.pass(3);
        Check.due("12: before the last tick", 15, () -> x.ink(0, 0, 6));
        x.pass(1);
        Check.due("12: the right strip alone", 1, () -> x.ink(0, 0, 6));
        Check.due("12: the left strip's stays beside none of the right", 8, () -> x.ink(0, 0, 3));
        Check.due("12: the left strip alone", 15, () -> x.ink(0, 0, 2));
        x.pass(1);
        x.put(0, 0, 2);
        x.pass(4);
        Check.due("12: the left half", 1, () -> x.ink(0, 0, 3));
    }

    // "printer: 0 to 2"
    private static void promise13Printer0To2() {
        StitchBanner x = shop(6, 2, 0);
        for (int printer : Check.outside(0, 2)) {
            Check.index("13: printer " + printer, () -> x.prints(printer));
        }
        for (int p = 0; p < 3; p++) {
            int printer = p;
            Check.due("13: printer " + p, 0, () -> x.prints(printer));
        }
        x.put(0, 2, 2);
        x.pass(1);
        Check.due("13: printer 2 prints", 21, () -> x.prints(2));
        Check.due("13: printer 1 does not", 0, () -> x.prints(1));
        Check.due("13: printer 0 does not", 0, () -> x.prints(0));
    }

    // "0 if it prints nothing", "when a tick begins"
    private static void promise13NothingBeforeATickBegins() {
        StitchBanner x = shop(4, 2, 0);
        x.put(0, 0, 0);
        Check.due("13: in the queue alone", 0, () -> x.prints(0));
        x.pass(1);
        Check.due("13: behind the first tick", 1, () -> x.prints(0));
    }

    // "0 if it prints nothing"
    private static void promise13NothingBehindTheLastTick() {
        StitchBanner x = shop(4, 2, 0);
        x.put(0, 0, 0);
        x.put(0, 1, 0);
        x.pass(2);
        Check.due("13: printed, the next one waits", 0, () -> x.prints(0));
        x.pass(1);
        Check.due("13: the next one", 11, () -> x.prints(0));
        x.pass(1);
        Check.due("13: none left", 0, () -> x.prints(0));
        x.pass(200);
        Check.due("13: none left, much later", 0, () -> x.prints(0));
    }

    // "Returns 1000 * banner + 10 * strip + 1"
    private static void promise13NumbersFromTheLeastToTheGreatest() {
        StitchBanner x = new StitchBanner();
        for (int b = 0; b < 5; b++) {
            x.begin(32, 2, 0, 40, 0);
        }
        int[][] pairs = {{0, 0}, {0, 15}, {4, 0}, {4, 15}, {1, 9}, {2, 10}};
        for (int[] pair : pairs) {
            x.put(pair[0], pair[1], 1);
            x.pass(1);
            Check.due("13: strip " + pair[1] + " of banner " + pair[0], 1000 * pair[0] + 10 * pair[1] + 1,
                () -> x.prints(1));
            x.pass(1);
        }
    }

    // "the one whose banner has the earliest due time"
    private static void promise13TheEarliestDueTime() {
        StitchBanner x = new StitchBanner();
        int[] dues = {10000, 9999, 1, 0, 5000};
        for (int due : dues) {
            x.begin(4, 2, 0, 40, due);
        }
        for (int b = 0; b < 5; b++) {
            x.put(b, 1, 0);
        }
        int[] order = {3, 2, 4, 1, 0};
        for (int banner : order) {
            x.pass(1);
            Check.due("13: due at " + dues[banner], 1000 * banner + 11, () -> x.prints(0));
            x.pass(1);
        }
    }

    // "of several that of the lowest banner"
    private static void promise13OfSeveralTheLowestBanner() {
        StitchBanner x = new StitchBanner();
        for (int b = 0; b < 5; b++) {
            x.begin(4, 2, 0, 40, 10000);
        }
        for (int b = 4; b >= 0; b--) {
            x.put(b, b == 0 ? 1 : 0, 2);
        }
        for (int b = 0; b < 5; b++) {
            x.pass(1);
            Check.due("13: of the same due time", b == 0 ? 11 : 1000 * b + 1, () -> x.prints(2));
            x.pass(1);
        }
    }

    // "of these the lowest strip"
    private static void promise13OfTheseTheLowestStrip() {
        StitchBanner x = shop(32, 2, 0);
        for (int s = 15; s >= 0; s--) {
            x.put(0, s, 0);
        }
        for (int s = 0; s < 16; s++) {
            x.pass(1);
            Check.due("13: of the same banner", 10 * s + 1, () -> x.prints(0));
            x.pass(1);
        }
    }

    // "A printer that prints nothing takes"
    private static void promise13WhatIsBeingPrintedGoesOn() {
        StitchBanner x = new StitchBanner();
        x.begin(8, 4, 0, 40, 1);
        x.begin(8, 4, 0, 40, 0);
        x.put(0, 1, 0);
        x.pass(1);
        x.put(0, 0, 0);
        x.put(1, 0, 0);
        x.pass(2);
        Check.due("13: goes on before a lower strip and an earlier banner", 11, () -> x.prints(0));
        Check.due("12: printed", 1, () -> x.pass(1));
        x.pass(1);
        Check.due("13: the earlier banner", 1001, () -> x.prints(0));
        x.pass(4);
        Check.due("13: the lower strip", 1, () -> x.prints(0));
    }

    // "IndexOutOfBoundsException if there is no such banner or strip"
    private static void promise14ABannerAndAStrip() {
        StitchBanner x = shop(32, 2, 0);
        x.begin(4, 4, 0, 40, 0);
        for (int banner : Check.outside(0, 1)) {
            Check.index("14: banner " + banner + " of two", () -> x.dry(banner, 0));
        }
        for (int strip : Check.outside(0, 15)) {
            Check.index("14: strip " + strip + " of sixteen", () -> x.dry(0, strip));
        }
        for (int strip : Check.outside(0, 0)) {
            Check.index("14: strip " + strip + " of one", () -> x.dry(1, strip));
        }
        Check.due("14: the last of sixteen", -1, () -> x.dry(0, 15));
        Check.due("14: the only one", -1, () -> x.dry(1, 0));
    }

    // "-1 if it was not printed"
    private static void promise14NotPrinted() {
        StitchBanner x = shop(4, 2, 0);
        Check.due("14: at first", -1, () -> x.dry(0, 0));
        x.put(0, 0, 0);
        Check.due("14: in the queue", -1, () -> x.dry(0, 0));
        x.pass(1);
        Check.due("14: being printed", -1, () -> x.dry(0, 0));
        x.pass(1);
        Check.due("14: printed", 2, () -> x.dry(0, 0));
        Check.due("14: the other strip", -1, () -> x.dry(0, 1));
    }

    // "It is dry as many ticks later as the greatest number that it lays"
    private static void promise14AsManyTicksLaterAsTheGreatestNumber() {
        int[][] places = {{0, 0}, {0, 3}, {7, 0}, {7, 3}, {4, 2}};
        for (int[] place : places) {
            StitchBanner x = shop(8, 4, 0);
            for (int r = 0; r < 8; r++) {
                x.fill(0, r, 0, 8, 3);
            }
            x.fill(0, place[0], place[1], place[1] + 1, 11);
            x.put(0, 0, 0);
            x.put(0, 1, 1);
            x.pass(4);
            Check.due("14: the greatest in row " + place[0] + ", column " + place[1], 15, () -> x.dry(0, 0));
            Check.due("14: of this strip alone", 7, () -> x.dry(0, 1));
        }
    }

    private static void promise14From0To30TicksLater() {
        for (int l = 0; l <= 15; l++) {
            StitchBanner x = shop(4, 2, 0);
            x.setGain(1, 200);
            x.fill(0, 0, 0, 4, l);
            x.put(0, 0, 0);
            x.put(0, 1, 1);
            x.pass(2);
            Check.due("14: by the level " + l, 2 + l, () -> x.dry(0, 0));
            Check.due("14: twice the level " + l, 2 + 2 * l, () -> x.dry(0, 1));
        }
    }

    private static void promise14SpiltInkCountsToo() {
        StitchBanner x = new StitchBanner();
        x.begin(4, 2, 0, 1, 0);
        x.setGain(0, 200);
        x.fill(0, 0, 0, 2, 15);
        x.put(0, 0, 0);
        x.pass(2);
        Check.due("14: what it lays, not the ink", 32, () -> x.dry(0, 0));
        x.pass(29);
        Check.state("11: not dry at 31", () -> x.put(0, 0, 0));
        x.pass(1);
        Check.due("11: dry at 32", 1, () -> x.put(0, 0, 0));
    }

    private static void promise14TheLatestPrinting() {
        StitchBanner x = shop(4, 2, 0);
        x.fill(0, 0, 0, 2, 5);
        x.put(0, 0, 0);
        x.pass(2);
        Check.due("14: the first printing", 7, () -> x.dry(0, 0));
        x.pass(200);
        Check.due("14: the same time, much later", 7, () -> x.dry(0, 0));
        x.put(0, 0, 0);
        Check.due("14: in the queue again", 7, () -> x.dry(0, 0));
        x.pass(1);
        Check.due("14: being printed again", 7, () -> x.dry(0, 0));
        x.pass(1);
        Check.due("14: the second printing", 209, () -> x.dry(0, 0));
    }
}
