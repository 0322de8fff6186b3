/** Promises 6 to 10, boundary cases: one test for each sentence of the document that names one. */
public final class PrintersEdgesTest {
    public static void main(String[] args) {
        promise6Printer0To2();
        promise6Gain50To200();
        promise6TheGainBefore();
        promise6IndexGoesFirst();
        promise6TheCorrectionStays();
        promise7Printer0To2();
        promise7RoundedUpForEveryGain();
        promise7TheCorrectionIsThatOfThePrinter();
        promise8Printer0To2();
        promise8Nozzle0To7();
        promise8CountsFrom1To8();
        promise9Printer0To2();
        promise9FreesFrom0To8();
        promise9IsRefusedFromTheFirstTickToTheLast();
        promise9BetweenTwoStrips();
        promise9GainAndCorrectionStay();
        promise10Printer0To2AndRow0To7();
        promise10Level0To15();
        promise10IndexGoesFirst();
        promise10CorrectionIsRoundedDown();
        promise10CorrectedTo15AtMost();
        promise10HalfUpAndTheRestDown();
        promise10NoRowAboveTheFirst();
        promise10NoRowBelowTheLast();
        promise10ToABlockedNozzleIsLost();
        promise10FromBothNeighbours();
        promise10EachNozzleLays15AtMost();
        promise10AllButOneAndAllBlocked();
        promise10GainIsRoundedDown();
        promise10GainBehindThe15();
        promise10ChangesNothing();
        Check.end();
    }

    private static void rows(String what, StitchBanner x, int printer, int level, int... due) {
        for (int r = 0; r < 8; r++) {
            int row = r;
            Check.due("10: " + what + ", row " + r, due[r], () -> x.patch(printer, row, level));
        }
    }

    private static StitchBanner blocked(int... nozzles) {
        StitchBanner x = new StitchBanner();
        for (int nozzle : nozzles) {
            x.block(0, nozzle);
        }
        return x;
    }

    // "printer: 0 to 2"
    private static void promise6Printer0To2() {
        StitchBanner x = new StitchBanner();
        for (int printer : Check.outside(0, 2)) {
            Check.index("6: printer " + printer, () -> x.setGain(printer, 100));
        }
        for (int p = 0; p < 3; p++) {
            int printer = p;
            Check.due("6: printer " + p, 100, () -> x.setGain(printer, 60 + printer));
        }
        for (int p = 0; p < 3; p++) {
            int printer = p;
            Check.due("6: the gain of printer " + p, 60 + p, () -> x.setGain(printer, 100));
        }
    }

    // "gain: 50 to 200"
    private static void promise6Gain50To200() {
        StitchBanner x = new StitchBanner();
        for (int gain : Check.outside(50, 200)) {
            Check.argument("6: gain " + gain, () -> x.setGain(1, gain));
        }
        Check.argument("6: gain 0", () -> x.setGain(1, 0));
        Check.due("6: gain 50", 100, () -> x.setGain(1, 50));
        Check.due("6: half at 50", 5, () -> x.patch(1, 0, 10));
        Check.due("6: gain 200", 50, () -> x.setGain(1, 200));
        Check.due("6: twice at 200", 20, () -> x.patch(1, 0, 10));
        for (int gain : Check.outside(50, 200)) {
            Check.argument("6: gain " + gain + " behind 200", () -> x.setGain(1, gain));
        }
        Check.due("6: a refused gain changes nothing", 20, () -> x.patch(1, 0, 10));
    }

    // "Returns the gain before"
    private static void promise6TheGainBefore() {
        StitchBanner x = new StitchBanner();
        Check.due("6: at first", 100, () -> x.setGain(2, 50));
        for (int g = 51; g <= 200; g++) {
            int gain = g;
            Check.due("6: before " + g, g - 1, () -> x.setGain(2, gain));
        }
        Check.due("6: the same again", 200, () -> x.setGain(2, 200));
        Check.due("6: still the same", 200, () -> x.setGain(2, 100));
    }

    // "If several apply, IndexOutOfBoundsException goes first"
    private static void promise6IndexGoesFirst() {
        StitchBanner x = new StitchBanner();
        for (int printer : Check.outside(0, 2)) {
            for (int gain : Check.outside(50, 200)) {
                Check.index("6: printer " + printer + " and gain " + gain, () -> x.setGain(printer, gain));
            }
        }
    }

    // "Sets the gain of a printer": the correction is another number
    private static void promise6TheCorrectionStays() {
        StitchBanner x = new StitchBanner();
        x.setGain(0, 50);
        Check.due("6: correction 100 with gain 50", 5, () -> x.patch(0, 0, 10));
        x.match(0);
        x.setGain(0, 100);
        Check.due("6: correction 200 with gain 100", 14, () -> x.patch(0, 0, 7));
        Check.due("6: correction 100 of another", 7, () -> x.patch(1, 0, 7));
    }

    // "printer: 0 to 2"
    private static void promise7Printer0To2() {
        StitchBanner x = new StitchBanner();
        for (int printer : Check.outside(0, 2)) {
            Check.index("7: printer " + printer, () -> x.match(printer));
        }
        for (int p = 0; p < 3; p++) {
            int printer = p;
            Check.due("7: printer " + p, 100, () -> x.match(printer));
        }
    }

    // "its correction becomes 10000 / gain, rounded up"
    private static void promise7RoundedUpForEveryGain() {
        StitchBanner x = new StitchBanner();
        for (int g = 50; g <= 200; g++) {
            int gain = g;
            int least = 0;
            while (least * gain < 10000) {
                least++;
            }
            int due = least;
            x.setGain(0, gain);
            Check.due("7: at gain " + g, due, () -> x.match(0));
        }
        Check.due("7: the least correction", 50, () -> x.match(0));
        x.setGain(0, 50);
        Check.due("7: the greatest correction", 200, () -> x.match(0));
        x.setGain(0, 199);
        Check.due("7: just above 50", 51, () -> x.match(0));
        x.setGain(0, 101);
        Check.due("7: just below 100", 100, () -> x.match(0));
    }

    private static void promise7TheCorrectionIsThatOfThePrinter() {
        StitchBanner x = new StitchBanner();
        x.setGain(1, 200);
        x.match(1);
        Check.due("7: halved and doubled", 14, () -> x.patch(1, 0, 15));
        Check.due("7: printer 0 is not matched", 15, () -> x.patch(0, 0, 15));
        Check.due("7: printer 2 is not matched", 15, () -> x.patch(2, 0, 15));
        Check.due("7: the gain stays", 200, () -> x.setGain(1, 100));
        Check.due("7: halved", 7, () -> x.patch(1, 0, 15));
        Check.due("7: matched again", 100, () -> x.match(1));
        Check.due("7: whole again", 15, () -> x.patch(1, 0, 15));
    }

    // "printer: 0 to 2"
    private static void promise8Printer0To2() {
        StitchBanner x = new StitchBanner();
        for (int printer : Check.outside(0, 2)) {
            Check.index("8: printer " + printer, () -> x.block(printer, 0));
            Check.index("8: printer " + printer + " and nozzle 8", () -> x.block(printer, 8));
        }
        for (int p = 0; p < 3; p++) {
            int printer = p;
            Check.due("8: printer " + p, 1, () -> x.block(printer, 0));
        }
    }

    // "nozzle: 0 to 7"
    private static void promise8Nozzle0To7() {
        for (int n = 0; n < 8; n++) {
            int nozzle = n;
            StitchBanner x = new StitchBanner();
            Check.due("8: nozzle " + n, 1, () -> x.block(1, nozzle));
            Check.due("8: nozzle " + n + " lays nothing", 0, () -> x.patch(1, nozzle, 15));
            Check.due("8: another row", 15, () -> x.patch(1, 7 - nozzle, 15));
        }
        StitchBanner x = new StitchBanner();
        for (int nozzle : Check.outside(0, 7)) {
            Check.index("8: nozzle " + nozzle, () -> x.block(1, nozzle));
        }
        Check.due("8: none was blocked", 0, () -> x.clean(1));
    }

    // "Returns how many nozzles of the printer are blocked then"
    private static void promise8CountsFrom1To8() {
        StitchBanner x = new StitchBanner();
        for (int n = 7; n >= 0; n--) {
            int nozzle = n;
            Check.due("8: one more, nozzle " + n, 8 - n, () -> x.block(0, nozzle));
            Check.due("8: the same again, nozzle " + n, 8 - n, () -> x.block(0, nozzle));
        }
        Check.due("8: of this printer alone", 1, () -> x.block(2, 0));
    }

    // "printer: 0 to 2"
    private static void promise9Printer0To2() {
        StitchBanner x = new StitchBanner();
        for (int printer : Check.outside(0, 2)) {
            Check.index("9: printer " + printer, () -> x.clean(printer));
        }
        for (int p = 0; p < 3; p++) {
            int printer = p;
            Check.due("9: printer " + p, 0, () -> x.clean(printer));
            Check.due("9: ink of printer " + p, 20, () -> x.used(false, printer));
        }
    }

    // "cleaning a printer uses 20 more, and frees all nozzles"
    private static void promise9FreesFrom0To8() {
        StitchBanner x = new StitchBanner();
        Check.due("9: none", 0, () -> x.clean(0));
        Check.due("9: 20, though none was freed", 20, () -> x.used(false, 0));
        for (int n = 0; n < 8; n++) {
            x.block(0, n);
        }
        x.block(1, 2);
        Check.due("9: all", 8, () -> x.clean(0));
        Check.due("9: 20 more", 40, () -> x.used(false, 0));
        for (int r = 0; r < 8; r++) {
            int row = r;
            Check.due("9: row " + r + " is free", 15, () -> x.patch(0, row, 15));
        }
        Check.due("9: none is left", 0, () -> x.clean(0));
        Check.due("9: 20 again", 60, () -> x.used(false, 0));
        Check.due("9: another printer stays blocked", 1, () -> x.clean(1));
        x.block(0, 7);
        Check.due("9: the last alone", 1, () -> x.clean(0));
        x.block(0, 0);
        Check.due("9: the first alone", 1, () -> x.clean(0));
    }

    // "IllegalStateException if it is printing"
    private static void promise9IsRefusedFromTheFirstTickToTheLast() {
        StitchBanner x = new StitchBanner();
        x.begin(12, 12, 0, 40, 0);
        x.block(2, 5);
        x.put(0, 0, 2);
        Check.due("9: while it waits in the queue", 1, () -> x.clean(2));
        x.block(2, 6);
        for (int t = 1; t < 12; t++) {
            x.pass(1);
            Check.state("9: behind tick " + t, () -> x.clean(2));
            Check.due("9: another printer behind tick " + t, 0, () -> x.clean(0));
        }
        Check.due("9: nothing was used", 20, () -> x.used(false, 2));
        x.pass(1);
        Check.due("9: behind the last tick", 1, () -> x.clean(2));
        Check.due("9: used", 40, () -> x.used(false, 2));
    }

    // "A printer that prints nothing takes ... when a tick begins"
    private static void promise9BetweenTwoStrips() {
        StitchBanner x = new StitchBanner();
        x.begin(4, 2, 0, 40, 0);
        x.put(0, 0, 0);
        x.put(0, 1, 0);
        x.pass(1);
        Check.state("9: the first is being printed", () -> x.clean(0));
        x.pass(1);
        Check.due("9: the second waits for a tick", 0, () -> x.clean(0));
        x.pass(1);
        Check.state("9: the second is being printed", () -> x.clean(0));
        x.pass(1);
        Check.due("9: both are printed", 0, () -> x.clean(0));
    }

    private static void promise9GainAndCorrectionStay() {
        StitchBanner x = new StitchBanner();
        x.setGain(0, 50);
        x.match(0);
        x.setGain(0, 150);
        x.clean(0);
        Check.due("9: the correction of 200 and the gain of 150", 21, () -> x.patch(0, 0, 7));
    }

    // "IndexOutOfBoundsException if there is no such printer or row"
    private static void promise10Printer0To2AndRow0To7() {
        StitchBanner x = new StitchBanner();
        for (int printer : Check.outside(0, 2)) {
            Check.index("10: printer " + printer, () -> x.patch(printer, 0, 1));
        }
        for (int row : Check.outside(0, 7)) {
            Check.index("10: row " + row, () -> x.patch(0, row, 1));
        }
        for (int p = 0; p < 3; p++) {
            rows("printer " + p, x, p, 15, 15, 15, 15, 15, 15, 15, 15, 15);
        }
    }

    // "level: 0 to 15"
    private static void promise10Level0To15() {
        StitchBanner x = new StitchBanner();
        for (int level : Check.outside(0, 15)) {
            Check.argument("10: level " + level, () -> x.patch(0, 7, level));
        }
        for (int l = 0; l <= 15; l++) {
            int level = l;
            Check.due("10: level " + l, level, () -> x.patch(0, 7, level));
        }
    }

    // "If several apply, IndexOutOfBoundsException goes first"
    private static void promise10IndexGoesFirst() {
        StitchBanner x = new StitchBanner();
        for (int level : Check.outside(0, 15)) {
            for (int printer : Check.outside(0, 2)) {
                Check.index("10: printer " + printer + ", level " + level, () -> x.patch(printer, 0, level));
            }
            for (int row : Check.outside(0, 7)) {
                Check.index("10: row " + row + ", level " + level, () -> x.patch(0, row, level));
            }
        }
    }

    // "what is to be laid in each row times the correction / 100, rounded down"
    private static void promise10CorrectionIsRoundedDown() {
        StitchBanner x = new StitchBanner();
        x.setGain(0, 150);
        x.match(0);
        x.setGain(0, 100);
        // The correction is 67.
        int[] due = {0, 0, 1, 2, 2, 3, 4, 4, 5, 6, 6, 7, 8, 8, 9, 10};
        for (int l = 0; l <= 15; l++) {
            int level = l;
            Check.due("10: 67 hundredths of " + l, due[l], () -> x.patch(0, 3, level));
        }
    }

    // "but 15 at most"
    private static void promise10CorrectedTo15AtMost() {
        StitchBanner x = new StitchBanner();
        x.setGain(0, 50);
        x.match(0);
        int[] due = {0, 1, 2, 3, 4, 5, 6, 7, 7, 7, 7, 7, 7, 7, 7, 7};
        for (int l = 0; l <= 15; l++) {
            int level = l;
            Check.due("10: twice " + l + ", 15 at most, halved", due[l], () -> x.patch(0, 3, level));
        }
        x.setGain(0, 100);
        Check.due("10: twice 7", 14, () -> x.patch(0, 3, 7));
        Check.due("10: twice 8", 15, () -> x.patch(0, 3, 8));
    }

    // "what a blocked nozzle should lay goes half, rounded up, to the row above (that with the number 1 less),
    // and the rest to the row below"
    private static void promise10HalfUpAndTheRestDown() {
        StitchBanner x = blocked(4);
        rows("nothing", x, 0, 0, 0, 0, 0, 0, 0, 0, 0, 0);
        rows("1 goes up", x, 0, 1, 1, 1, 1, 2, 0, 1, 1, 1);
        rows("2 goes both ways", x, 0, 2, 2, 2, 2, 3, 0, 3, 2, 2);
        rows("3 goes 2 up and 1 down", x, 0, 3, 3, 3, 3, 5, 0, 4, 3, 3);
        rows("9 goes 5 up and 4 down", x, 0, 9, 9, 9, 9, 14, 0, 13, 9, 9);
    }

    // "what would go ... to no row, is lost"
    private static void promise10NoRowAboveTheFirst() {
        StitchBanner x = blocked(0);
        rows("1, the first blocked", x, 0, 1, 0, 1, 1, 1, 1, 1, 1, 1);
        rows("7, the first blocked", x, 0, 7, 0, 10, 7, 7, 7, 7, 7, 7);
    }

    // "what would go ... to no row, is lost"
    private static void promise10NoRowBelowTheLast() {
        StitchBanner x = blocked(7);
        rows("1, the last blocked", x, 0, 1, 1, 1, 1, 1, 1, 1, 2, 0);
        rows("7, the last blocked", x, 0, 7, 7, 7, 7, 7, 7, 7, 11, 0);
    }

    // "what would go to a blocked nozzle ... is lost; all this is found at once"
    private static void promise10ToABlockedNozzleIsLost() {
        rows("3 and 4 blocked", blocked(3, 4), 0, 7, 7, 7, 11, 0, 0, 10, 7, 7);
        rows("4 and 3 blocked", blocked(4, 3), 0, 7, 7, 7, 11, 0, 0, 10, 7, 7);
        rows("2 to 5 blocked", blocked(2, 3, 4, 5), 0, 7, 7, 11, 0, 0, 0, 0, 10, 7);
        rows("0 and 1 blocked", blocked(0, 1), 0, 7, 0, 0, 10, 7, 7, 7, 7, 7);
        rows("6 and 7 blocked", blocked(6, 7), 0, 7, 7, 7, 7, 7, 7, 11, 0, 0);
    }

    private static void promise10FromBothNeighbours() {
        rows("2 and 4 blocked", blocked(2, 4), 0, 5, 5, 8, 0, 10, 0, 7, 5, 5);
        rows("0 and 2 blocked", blocked(0, 2), 0, 5, 0, 10, 0, 7, 5, 5, 5, 5);
        rows("5 and 7 blocked", blocked(5, 7), 0, 5, 5, 5, 5, 5, 8, 0, 10, 0);
    }

    // "each nozzle that is not blocked lays 15 at most"
    private static void promise10EachNozzleLays15AtMost() {
        StitchBanner x = blocked(4);
        rows("10, just 15", x, 0, 10, 10, 10, 10, 15, 0, 15, 10, 10);
        rows("11, 17 and 16 are 15", x, 0, 11, 11, 11, 11, 15, 0, 15, 11, 11);
        rows("15", x, 0, 15, 15, 15, 15, 15, 0, 15, 15, 15);
        rows("7 between two, 14", blocked(3, 5), 0, 7, 7, 7, 11, 0, 14, 0, 10, 7);
        rows("8 between two, 16 is 15", blocked(3, 5), 0, 8, 8, 8, 12, 0, 15, 0, 12, 8);
    }

    private static void promise10AllButOneAndAllBlocked() {
        rows("all but 0", blocked(1, 2, 3, 4, 5, 6, 7), 0, 5, 8, 0, 0, 0, 0, 0, 0, 0);
        rows("all but 7", blocked(0, 1, 2, 3, 4, 5, 6), 0, 5, 0, 0, 0, 0, 0, 0, 0, 7);
        rows("all but 3", blocked(0, 1, 2, 4, 5, 6, 7), 0, 5, 0, 0, 0, 10, 0, 0, 0, 0);
        rows("all", blocked(0, 1, 2, 3, 4, 5, 6, 7), 0, 15, 0, 0, 0, 0, 0, 0, 0, 0);
    }

    // "Then each is taken times the gain / 100, rounded down"
    private static void promise10GainIsRoundedDown() {
        StitchBanner x = new StitchBanner();
        x.setGain(0, 50);
        x.setGain(1, 99);
        x.setGain(2, 199);
        for (int l = 0; l <= 15; l++) {
            int level = l;
            Check.due("10: half of " + l, l / 2, () -> x.patch(0, 0, level));
            Check.due("10: 99 hundredths of " + l, l == 0 ? 0 : l - 1, () -> x.patch(1, 0, level));
            Check.due("10: 199 hundredths of " + l, l == 0 ? 0 : 2 * l - 1, () -> x.patch(2, 0, level));
        }
        // 8 * 67 / 100 is 5, and 5 * 150 / 100 is 7; rounded down once it would be 8.
        StitchBanner y = new StitchBanner();
        y.setGain(0, 150);
        y.match(0);
        Check.due("10: each step is rounded down", 7, () -> y.patch(0, 0, 8));
    }

    // "Then": what is laid with the gain can be above 15, up to 30
    private static void promise10GainBehindThe15() {
        StitchBanner x = blocked(4);
        x.setGain(0, 200);
        rows("15 at most, doubled", x, 0, 15, 30, 30, 30, 30, 0, 30, 30, 30);
        rows("9 by gain 200", x, 0, 9, 18, 18, 18, 28, 0, 26, 18, 18);
        x.setGain(0, 107);
        Check.due("10: just above 15", 16, () -> x.patch(0, 0, 15));
        x.setGain(0, 50);
        // The halves are found of 9, not of the 4 that the gain leaves: 14 and 13 halved.
        rows("9 by gain 50", x, 0, 9, 4, 4, 4, 7, 0, 6, 4, 4);
    }

    private static void promise10ChangesNothing() {
        StitchBanner x = blocked(4);
        x.patch(0, 4, 15);
        Check.due("10: no ink", 0, () -> x.used(false, 0));
        Check.due("10: no strip", 0, () -> x.prints(0));
        Check.due("10: the other level behind it", 13, () -> x.patch(0, 5, 9));
        Check.due("10: the nozzle", 1, () -> x.clean(0));
    }
}
