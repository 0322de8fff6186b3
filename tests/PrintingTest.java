/** Promises 11 to 14: put, pass, prints, dry. */
public final class PrintingTest {
    private static final int[] NO_PRINTERS = {-1, 3, Integer.MIN_VALUE, Integer.MAX_VALUE};
    private static final int[] NO_BANNERS = {-1, 1, 4, 5, Integer.MIN_VALUE, Integer.MAX_VALUE};
    private static final int[] NO_STRIPS = {-1, 3, 15, 16, Integer.MIN_VALUE, Integer.MAX_VALUE};

    public static void main(String[] args) {
        putCounts();
        putNotTwice();
        putWhenDry();
        putRefuses();
        passCounts();
        passRefuses();
        takesInOrder();
        takesWhenATickBegins();
        laysAsOfTheEnd();
        dries();
        Check.end();
    }

    private static void putCounts() {
        StitchBanner x = new StitchBanner();
        x.begin(12, 4, 0, 10, 10);
        Check.due("11: first", 1, () -> x.put(0, 2, 0));
        Check.due("11: second", 2, () -> x.put(0, 0, 0));
        Check.due("11: another printer", 1, () -> x.put(0, 1, 2));
        x.pass(1);
        x.begin(12, 4, 0, 10, 10);
        Check.due("11: the one being printed is not counted", 2, () -> x.put(1, 0, 0));
        Check.due("11: nor at the other printer", 1, () -> x.put(1, 1, 2));
    }

    private static void putNotTwice() {
        StitchBanner x = new StitchBanner();
        x.begin(8, 4, 0, 10, 10);
        x.put(0, 0, 1);
        Check.state("11: in this queue", () -> x.put(0, 0, 1));
        Check.state("11: in another queue", () -> x.put(0, 0, 0));
        x.pass(1);
        Check.state("11: being printed", () -> x.put(0, 0, 1));
        Check.state("11: being printed by another", () -> x.put(0, 0, 2));
        Check.due("11: nothing was put", 1, () -> x.put(0, 1, 1));
        x.pass(3);
        Check.due("11: level 0 is dry at once", 1, () -> x.put(0, 0, 2));
    }

    private static void putWhenDry() {
        StitchBanner x = new StitchBanner();
        x.begin(4, 4, 0, 10, 10);
        x.fill(0, 5, 1, 3, 7);
        x.put(0, 0, 0);
        x.pass(4);
        Check.due("11: dry at", 11, () -> x.dry(0, 0));
        Check.state("11: just printed", () -> x.put(0, 0, 0));
        x.pass(6);
        Check.state("11: at 10", () -> x.put(0, 0, 1));
        x.pass(1);
        Check.due("11: at 11", 1, () -> x.put(0, 0, 0));
        Check.due("14: the latest printing, in the queue again", 11, () -> x.dry(0, 0));
        x.pass(1);
        Check.due("14: the latest printing, being printed again", 11, () -> x.dry(0, 0));
        x.fill(0, 5, 0, 4, 2);
        x.pass(3);
        Check.due("14: printed again at 15", 17, () -> x.dry(0, 0));
        Check.state("11: wet again", () -> x.put(0, 0, 0));
        x.pass(2);
        Check.due("11: dry again", 1, () -> x.put(0, 0, 0));
    }

    private static void putRefuses() {
        StitchBanner x = new StitchBanner();
        x.begin(12, 4, 0, 10, 10);
        x.put(0, 0, 0);
        for (int banner : NO_BANNERS) {
            Check.index("11: banner " + banner, () -> x.put(banner, 0, 1));
        }
        for (int strip : NO_STRIPS) {
            Check.index("11: strip " + strip, () -> x.put(0, strip, 1));
        }
        for (int printer : NO_PRINTERS) {
            Check.index("11: printer " + printer, () -> x.put(0, 1, printer));
            Check.index("11: index goes first, printer " + printer, () -> x.put(0, 0, printer));
        }
        Check.due("11: nothing was put", 1, () -> x.put(0, 1, 1));
    }

    private static void passCounts() {
        StitchBanner x = new StitchBanner();
        x.begin(10, 4, 0, 10, 10);
        Check.due("12: nothing to print", 0, () -> x.pass(200));
        x.put(0, 0, 0);
        x.put(0, 1, 0);
        x.put(0, 2, 1);
        Check.due("12: one tick", 0, () -> x.pass(1));
        Check.due("12: the last strip has two columns", 1, () -> x.pass(1));
        Check.due("14: printed at", 202, () -> x.dry(0, 2));
        Check.due("12: third tick", 0, () -> x.pass(1));
        Check.due("12: four columns take four ticks", 1, () -> x.pass(1));
        Check.due("12: next strip", 0, () -> x.pass(3));
        Check.due("12: next strip printed", 1, () -> x.pass(1));
        Check.due("12: nothing left", 0, () -> x.pass(200));
        x.put(0, 0, 2);
        x.put(0, 1, 2);
        x.put(0, 2, 2);
        Check.due("12: three in one call", 3, () -> x.pass(10));
        Check.due("14: one behind the other, first", 412, () -> x.dry(0, 0));
        Check.due("14: one behind the other, second", 416, () -> x.dry(0, 1));
        Check.due("14: one behind the other, third", 418, () -> x.dry(0, 2));
        x.put(0, 0, 0);
        x.put(0, 1, 1);
        Check.due("12: at two printers at once", 2, () -> x.pass(4));
    }

    private static void passRefuses() {
        StitchBanner x = new StitchBanner();
        x.begin(4, 4, 0, 10, 10);
        x.put(0, 0, 0);
        int[] wrong = {0, -1, 201, Integer.MIN_VALUE, Integer.MAX_VALUE};
        for (int ticks : wrong) {
            Check.argument("12: ticks " + ticks, () -> x.pass(ticks));
        }
        Check.due("12: no tick passed", 0, () -> x.prints(0));
        Check.due("12: all four ticks are due", 0, () -> x.pass(3));
        Check.due("12: printed", 1, () -> x.pass(1));
        Check.due("14: at 4", 4, () -> x.dry(0, 0));
    }

    private static void takesInOrder() {
        StitchBanner x = new StitchBanner();
        x.begin(8, 2, 0, 10, 9);
        x.begin(8, 2, 0, 10, 3);
        x.begin(8, 2, 0, 10, 3);
        x.begin(8, 2, 0, 10, 10000);
        x.begin(8, 2, 0, 10, 0);
        int[][] put = {{3, 0}, {0, 2}, {0, 1}, {2, 0}, {1, 3}, {1, 2}, {2, 3}, {4, 3}};
        for (int[] one : put) {
            x.put(one[0], one[1], 1);
        }
        x.put(4, 0, 0);
        int[] due = {4031, 1021, 1031, 2001, 2031, 11, 21, 3001};
        for (int number : due) {
            x.pass(1);
            Check.due("13: next is " + number, number, () -> x.prints(1));
            x.pass(1);
            Check.due("13: between two", 0, () -> x.prints(1));
        }
        for (int printer : NO_PRINTERS) {
            Check.index("13: printer " + printer, () -> x.prints(printer));
        }
        Check.due("13: nothing at 2", 0, () -> x.prints(2));
    }

    private static void takesWhenATickBegins() {
        StitchBanner x = new StitchBanner();
        x.begin(32, 2, 0, 10, 9);
        x.begin(8, 4, 0, 10, 3);
        x.put(0, 15, 0);
        Check.due("13: not taken before a tick", 0, () -> x.prints(0));
        x.put(1, 1, 0);
        x.pass(1);
        Check.due("13: the earlier due one, put later", 1011, () -> x.prints(0));
        x.begin(8, 4, 0, 10, 0);
        x.put(2, 0, 0);
        x.pass(2);
        Check.due("13: what is being printed goes on", 1011, () -> x.prints(0));
        x.pass(2);
        Check.due("13: then the earliest", 2001, () -> x.prints(0));
        x.pass(4);
        Check.due("13: then the rest", 151, () -> x.prints(0));
        Check.due("12: printed", 1, () -> x.pass(1));
    }

    private static void laysAsOfTheEnd() {
        StitchBanner x = new StitchBanner();
        x.begin(4, 4, 0, 40, 10);
        x.fill(0, 0, 0, 4, 15);
        x.fill(0, 4, 0, 4, 4);
        x.put(0, 0, 0);
        x.pass(3);
        x.fill(0, 0, 0, 4, 10);
        x.setGain(0, 80);
        x.match(0);
        x.setGain(0, 200);
        x.block(0, 4);
        x.pass(1);
        // The correction is 125: 10 becomes 12, and 4 becomes 5, of which 3 go up and 2 down.
        Check.due("12: picture, gain and correction of the end", 24, () -> x.ink(0, 0, 3));
        Check.due("12: nozzles of the end", 0, () -> x.ink(0, 4, 0));
        Check.due("12: the row above", 6, () -> x.ink(0, 3, 1));
        Check.due("12: the row below", 4, () -> x.ink(0, 5, 2));
        Check.due("14: dry by the greatest number", 28, () -> x.dry(0, 0));
        x.fill(0, 0, 0, 4, 1);
        x.setGain(0, 50);
        Check.due("12: what is laid stays", 24, () -> x.ink(0, 0, 3));
        Check.due("14: and so does its time", 28, () -> x.dry(0, 0));
    }

    private static void dries() {
        StitchBanner x = new StitchBanner();
        x.begin(12, 4, 0, 1, 10);
        x.fill(0, 0, 5, 6, 13);
        x.fill(0, 6, 6, 7, 14);
        x.put(0, 1, 2);
        Check.due("14: not printed", -1, () -> x.dry(0, 1));
        x.pass(4);
        Check.due("14: by the greatest, beyond the limit too", 18, () -> x.dry(0, 1));
        Check.due("14: another strip", -1, () -> x.dry(0, 0));
        for (int banner : NO_BANNERS) {
            Check.index("14: banner " + banner, () -> x.dry(banner, 0));
        }
        for (int strip : NO_STRIPS) {
            Check.index("14: strip " + strip, () -> x.dry(0, strip));
        }
    }
}
