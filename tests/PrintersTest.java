/** Promises 6 to 10: setGain, match, block, clean, patch. */
public final class PrintersTest {
    private static final int[] NO_PRINTERS = {-1, 3, Integer.MIN_VALUE, Integer.MAX_VALUE};
    private static final int[] NO_ROWS = {-1, 8, Integer.MIN_VALUE, Integer.MAX_VALUE};

    public static void main(String[] args) {
        gains();
        matches();
        blocks();
        cleans();
        cleansWhilePrinting();
        patchesOfNozzles();
        patchRounds();
        patchRefuses();
        Check.end();
    }

    private static void gains() {
        StitchBanner x = new StitchBanner();
        Check.due("6: gain at first", 100, () -> x.setGain(0, 50));
        Check.due("6: the least", 50, () -> x.setGain(0, 200));
        Check.due("6: the most", 200, () -> x.setGain(0, 77));
        Check.due("6: another printer", 100, () -> x.setGain(2, 130));
        Check.argument("6: gain 49", () -> x.setGain(0, 49));
        Check.argument("6: gain 201", () -> x.setGain(0, 201));
        Check.argument("6: far gain", () -> x.setGain(0, Integer.MAX_VALUE));
        Check.argument("6: far negative gain", () -> x.setGain(0, Integer.MIN_VALUE));
        for (int printer : NO_PRINTERS) {
            Check.index("6: printer " + printer, () -> x.setGain(printer, 100));
            Check.index("6: index goes first, printer " + printer, () -> x.setGain(printer, 0));
        }
        Check.due("6: nothing was set", 77, () -> x.setGain(0, 100));
        Check.due("6: nothing was set at 2", 130, () -> x.setGain(2, 100));
    }

    private static void matches() {
        StitchBanner x = new StitchBanner();
        int[][] due = {{100, 100}, {50, 200}, {200, 50}, {150, 67}, {99, 102}, {101, 100}, {51, 197}, {199, 51},
            {125, 80}, {80, 125}, {130, 77}};
        for (int[] pair : due) {
            x.setGain(1, pair[0]);
            Check.due("7: match at gain " + pair[0], pair[1], () -> x.match(1));
        }
        x.setGain(1, 200);
        Check.due("7: gain alone changes no correction", 22, () -> x.patch(1, 0, 15));
        x.setGain(0, 50);
        Check.due("7: not matched yet", 7, () -> x.patch(0, 0, 15));
        x.match(0);
        Check.due("7: matched, but 15 at most before the gain", 7, () -> x.patch(0, 0, 15));
        Check.due("7: matched", 6, () -> x.patch(0, 0, 6));
        for (int printer : NO_PRINTERS) {
            Check.index("7: printer " + printer, () -> x.match(printer));
        }
    }

    private static void blocks() {
        StitchBanner x = new StitchBanner();
        Check.due("8: first", 1, () -> x.block(0, 7));
        Check.due("8: the same again", 1, () -> x.block(0, 7));
        Check.due("8: second", 2, () -> x.block(0, 0));
        Check.due("8: another printer", 1, () -> x.block(1, 3));
        for (int row : NO_ROWS) {
            Check.index("8: nozzle " + row, () -> x.block(0, row));
        }
        for (int printer : NO_PRINTERS) {
            Check.index("8: printer " + printer, () -> x.block(printer, 0));
        }
        Check.due("8: nothing was blocked", 2, () -> x.block(0, 0));
        for (int n = 1; n < 7; n++) {
            int nozzle = n;
            Check.due("8: nozzle " + n, n + 2, () -> x.block(0, nozzle));
        }
        Check.due("8: all blocked", 0, () -> x.patch(0, 4, 15));
    }

    private static void cleans() {
        StitchBanner x = new StitchBanner();
        x.block(0, 1);
        x.block(0, 4);
        x.block(1, 4);
        x.setGain(0, 120);
        x.match(0);
        Check.due("9: two", 2, () -> x.clean(0));
        Check.due("9: none left", 0, () -> x.clean(0));
        Check.due("9: ink of two cleanings", 40, () -> x.used(false, 0));
        Check.due("9: no ink of another", 0, () -> x.used(false, 1));
        Check.due("9: the other one is blocked still", 0, () -> x.patch(1, 4, 10));
        Check.due("9: free again", 14, () -> x.patch(0, 4, 15));
        Check.due("9: the gain stays", 120, () -> x.setGain(0, 100));
        Check.due("9: the correction stays", 12, () -> x.patch(0, 4, 15));
        for (int printer : NO_PRINTERS) {
            Check.index("9: printer " + printer, () -> x.clean(printer));
        }
    }

    private static void cleansWhilePrinting() {
        StitchBanner x = new StitchBanner();
        x.begin(4, 4, 0, 10, 10);
        x.block(0, 1);
        x.put(0, 0, 0);
        Check.due("9: only in the queue", 1, () -> x.clean(0));
        x.block(0, 2);
        x.pass(1);
        Check.state("9: printing", () -> x.clean(0));
        Check.due("9: another printer", 0, () -> x.clean(1));
        x.pass(2);
        Check.state("9: printing still", () -> x.clean(0));
        Check.due("9: nothing was used", 20, () -> x.used(false, 0));
        Check.due("9: nothing was freed", 2, () -> x.block(0, 3));
        x.pass(1);
        Check.due("9: printed", 2, () -> x.clean(0));
    }

    private static void patchesOfNozzles() {
        StitchBanner x = new StitchBanner();
        x.block(0, 3);
        int[] one = {9, 9, 14, 0, 13, 9, 9, 9};
        rows(x, 9, one, "nozzle 3 blocked");
        x.block(0, 4);
        int[] two = {9, 9, 14, 0, 0, 13, 9, 9};
        rows(x, 9, two, "nozzles 3 and 4 blocked");
        x.block(0, 0);
        x.block(0, 7);
        int[] edges = {0, 13, 14, 0, 0, 13, 14, 0};
        rows(x, 9, edges, "nozzles 0, 3, 4 and 7 blocked");
        x.clean(0);
        x.block(0, 2);
        x.block(0, 4);
        int[] around = {5, 8, 0, 10, 0, 7, 5, 5};
        rows(x, 5, around, "nozzles 2 and 4 blocked");
        int[] capped = {15, 15, 0, 15, 0, 15, 15, 15};
        rows(x, 15, capped, "nozzles 2 and 4 blocked, 15 at most");
        x.setGain(0, 200);
        int[] gained = {30, 30, 0, 30, 0, 30, 30, 30};
        rows(x, 15, gained, "nozzles 2 and 4 blocked, gain behind the most");
        int[] none = {0, 0, 0, 0, 0, 0, 0, 0};
        rows(x, 0, none, "level 0");
    }

    private static void rows(StitchBanner x, int level, int[] due, String what) {
        for (int r = 0; r < due.length; r++) {
            int row = r;
            Check.due("10: " + what + ", row " + r, due[r], () -> x.patch(0, row, level));
        }
    }

    private static void patchRounds() {
        StitchBanner x = new StitchBanner();
        x.setGain(1, 150);
        x.match(1);
        // 10 * 67 / 100 is 6.7, laid as 6, and 6 * 150 / 100 is 9.
        Check.due("10: both are rounded down", 9, () -> x.patch(1, 0, 10));
        Check.due("10: level 15", 15, () -> x.patch(1, 0, 15));
        Check.due("10: level 1", 0, () -> x.patch(1, 0, 1));
        x.setGain(1, 100);
        // What is held back is the corrected 6, so its half is 3; of the level 10 it would be 5.
        x.block(1, 5);
        Check.due("10: half of the corrected", 9, () -> x.patch(1, 4, 10));
        x.setGain(2, 99);
        Check.due("10: gain 99", 14, () -> x.patch(2, 7, 15));
        Check.due("10: printers differ", 15, () -> x.patch(0, 7, 15));
        Check.due("10: a patch uses no ink", 0, () -> x.used(false, 1));
    }

    private static void patchRefuses() {
        StitchBanner x = new StitchBanner();
        for (int printer : NO_PRINTERS) {
            Check.index("10: printer " + printer, () -> x.patch(printer, 0, 1));
            Check.index("10: index goes first, printer " + printer, () -> x.patch(printer, 0, 16));
        }
        for (int row : NO_ROWS) {
            Check.index("10: row " + row, () -> x.patch(0, row, 1));
            Check.index("10: index goes first, row " + row, () -> x.patch(0, row, -1));
        }
        Check.argument("10: level -1", () -> x.patch(0, 0, -1));
        Check.argument("10: level 16", () -> x.patch(0, 0, 16));
        Check.argument("10: far level", () -> x.patch(0, 0, Integer.MAX_VALUE));
        Check.argument("10: far negative level", () -> x.patch(0, 0, Integer.MIN_VALUE));
    }
}
