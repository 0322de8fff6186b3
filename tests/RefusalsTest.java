import java.util.ArrayList;
import java.util.List;

/**
 * Promises 2 to 19: each call that is refused, in several states of the shop. It must throw the very exception
 * that the document names ("If several apply, IndexOutOfBoundsException goes first, then
 * IllegalArgumentException"), and "A call that throws an exception changes nothing": behind it, an object must
 * answer as one of which the call was not asked.
 */
public final class RefusalsTest {
    private static final Class<?> INDEX = IndexOutOfBoundsException.class;
    private static final Class<?> ARGUMENT = IllegalArgumentException.class;
    private static final Class<?> STATE = IllegalStateException.class;
    private static final int[] NO_PRINTERS = Check.outside(0, 2);
    private static final int[] NO_ROWS = Check.outside(0, 7);
    private static final int[] NO_LEVELS = Check.outside(0, 15);
    private static final int MOST_CALLS = 512;

    private interface Use {
        Object on(StitchBanner x);
    }

    private interface Making {
        void calls(StitchBanner x);
    }

    private record Refused(String what, Class<?> due, Use use) {
    }

    private final String name;
    // Of each banner that the calls make.
    private final int[] columns;
    private final Making making;
    private final List<Refused> refused = new ArrayList<>();
    private int calls = 0;

    private RefusalsTest(String name, int[] columns, Making making) {
        this.name = name;
        this.columns = columns;
        this.making = making;
    }

    public static void main(String[] args) {
        RefusalsTest empty = new RefusalsTest("new", new int[0], x -> { });
        empty.addForEveryState();
        empty.compareAll();

        RefusalsTest busy = new RefusalsTest("busy", new int[] {7, 4}, RefusalsTest::makeBusy);
        busy.addForEveryState();
        busy.addForBusy();
        busy.compareAll();

        RefusalsTest full = new RefusalsTest("full", new int[] {4, 4, 4, 4, 4}, RefusalsTest::makeFull);
        full.addForEveryState();
        full.addForFull();
        full.compareAll();
        Check.end();
    }

    /** Of banner 0 strip 0 is wet, 1 being printed, and 2 in a queue; of banner 1 only strip 1 was printed. */
    private static void makeBusy(StitchBanner x) {
        x.begin(7, 3, 1, 12, 7);
        x.begin(4, 2, 0, 3, 7);
        x.fill(0, 0, 0, 7, 15);
        x.fill(0, 4, 1, 6, 9);
        x.fill(1, 7, 0, 4, 5);
        x.setGain(0, 120);
        x.match(1);
        x.setGain(1, 80);
        x.block(0, 4);
        x.block(2, 7);
        x.put(0, 0, 0);
        x.put(1, 1, 0);
        x.pass(5);
        x.put(0, 1, 0);
        x.put(0, 2, 0);
        x.pass(1);
    }

    private static void makeFull(StitchBanner x) {
        for (int banner = 0; banner < 5; banner++) {
            x.begin(4, 4, 0, 10, 10 * banner);
            x.fill(banner, banner, 0, 4, 9);
        }
        x.put(4, 0, 2);
        x.put(3, 0, 2);
        x.pass(1);
    }

    private void add(String what, Class<?> due, Use use) {
        refused.add(new Refused(what, due, use));
    }

    private void addForEveryState() {
        addBegins();
        addPrinters();
        for (int banner : Check.outside(0, columns.length - 1)) {
            addNoBanner(banner);
        }
        for (int banner = 0; banner < columns.length; banner++) {
            addPlaces(banner);
            addFills(banner);
        }
        for (int ticks : Check.outside(1, 200)) {
            add("12: pass(" + ticks + ")", ARGUMENT, x -> x.pass(ticks));
        }
    }

    private void addBegins() {
        for (int c : Check.outside(4, 32)) {
            add("2: begin, columns " + c, ARGUMENT, x -> x.begin(c, 4, 1, 10, 5));
        }
        for (int width : Check.outside(2, 12)) {
            add("2: begin, width " + width, ARGUMENT, x -> x.begin(8, width, 0, 10, 5));
        }
        for (int overlap : Check.outside(0, 3)) {
            add("2: begin, overlap " + overlap, ARGUMENT, x -> x.begin(8, 12, overlap, 10, 5));
        }
        add("2: begin, half of the width", ARGUMENT, x -> x.begin(8, 6, 3, 10, 5));
        add("2: begin, twice the overlap wraps round", ARGUMENT, x -> x.begin(8, 6, 1 << 31, 10, 5));
        for (int limit : Check.outside(1, 40)) {
            add("2: begin, limit " + limit, ARGUMENT, x -> x.begin(8, 4, 1, limit, 5));
        }
        for (int due : Check.outside(0, 10000)) {
            add("2: begin, due " + due, ARGUMENT, x -> x.begin(8, 4, 1, 10, due));
        }
    }

    private void addPrinters() {
        for (int printer : NO_PRINTERS) {
            add("6: setGain, printer " + printer, INDEX, x -> x.setGain(printer, 70));
            add("6: setGain, printer " + printer + ", gain 49", INDEX, x -> x.setGain(printer, 49));
            add("7: match, printer " + printer, INDEX, x -> x.match(printer));
            add("8: block, printer " + printer, INDEX, x -> x.block(printer, 3));
            add("9: clean, printer " + printer, INDEX, x -> x.clean(printer));
            add("10: patch, printer " + printer, INDEX, x -> x.patch(printer, 3, 9));
            add("10: patch, printer " + printer + ", level 16", INDEX, x -> x.patch(printer, 3, 16));
            add("13: prints, printer " + printer, INDEX, x -> x.prints(printer));
            add("17: used, printer " + printer, INDEX, x -> x.used(false, printer));
        }
        for (int p = 0; p < 3; p++) {
            int printer = p;
            for (int gain : Check.outside(50, 200)) {
                add("6: setGain, printer " + p + ", gain " + gain, ARGUMENT, x -> x.setGain(printer, gain));
            }
            for (int row : NO_ROWS) {
                add("8: block, nozzle " + row, INDEX, x -> x.block(printer, row));
                add("10: patch, row " + row, INDEX, x -> x.patch(printer, row, 9));
                add("10: patch, row " + row + ", level -1", INDEX, x -> x.patch(printer, row, -1));
            }
            for (int level : NO_LEVELS) {
                add("10: patch, level " + level, ARGUMENT, x -> x.patch(printer, 3, level));
            }
        }
    }

    private void addNoBanner(int banner) {
        String where = ", banner " + banner;
        add("3: fill" + where, INDEX, x -> x.fill(banner, 0, 0, 1, 8));
        add("3: fill, end 0" + where, INDEX, x -> x.fill(banner, 0, 0, 0, 8));
        add("3: fill, level 16" + where, INDEX, x -> x.fill(banner, 0, 0, 1, 16));
        add("4: strips" + where, INDEX, x -> x.strips(banner));
        add("5: toLay" + where, INDEX, x -> x.toLay(banner, 0, 0, 0));
        add("11: put" + where, INDEX, x -> x.put(banner, 0, 1));
        add("14: dry" + where, INDEX, x -> x.dry(banner, 0));
        add("15: ink" + where, INDEX, x -> x.ink(banner, 0, 0));
        add("16: spilt" + where, INDEX, x -> x.spilt(banner));
        add("17: used" + where, INDEX, x -> x.used(true, banner));
        add("18: seam" + where, INDEX, x -> x.seam(banner, 0));
        add("19: meanError" + where, INDEX, x -> x.meanError(banner));
    }

    private void addPlaces(int banner) {
        String where = ", banner " + banner;
        int strips = made().strips(banner);
        for (int strip : Check.outside(0, strips - 1)) {
            add("5: toLay, strip " + strip + where, INDEX, x -> x.toLay(banner, strip, 0, 0));
            add("11: put, strip " + strip + where, INDEX, x -> x.put(banner, strip, 1));
            add("14: dry, strip " + strip + where, INDEX, x -> x.dry(banner, strip));
        }
        for (int seam : Check.outside(0, strips - 2)) {
            add("18: seam " + seam + where, INDEX, x -> x.seam(banner, seam));
        }
        for (int row : NO_ROWS) {
            add("5: toLay, row " + row + where, INDEX, x -> x.toLay(banner, 0, row, 0));
            add("15: ink, row " + row + where, INDEX, x -> x.ink(banner, row, 0));
        }
        for (int column : Check.outside(0, columns[banner] - 1)) {
            add("5: toLay, column " + column + where, INDEX, x -> x.toLay(banner, 0, 0, column));
            add("15: ink, column " + column + where, INDEX, x -> x.ink(banner, 0, column));
        }
        // Of the strips some are in a queue, being printed or wet: "IndexOutOfBoundsException goes first".
        for (int s = 0; s < strips; s++) {
            int strip = s;
            for (int printer : NO_PRINTERS) {
                add("11: put, printer " + printer + ", strip " + s + where, INDEX, x -> x.put(banner, strip, printer));
            }
        }
    }

    private void addFills(int banner) {
        String where = ", banner " + banner;
        int size = columns[banner];
        for (int row : NO_ROWS) {
            add("3: fill, row " + row + where, INDEX, x -> x.fill(banner, row, 0, size, 8));
            add("3: fill, end 0, row " + row + where, INDEX, x -> x.fill(banner, row, 0, 0, 8));
            add("3: fill, level 16, row " + row + where, INDEX, x -> x.fill(banner, row, 0, size, 16));
        }
        for (int from : Check.outside(0, size - 1)) {
            add("3: fill, from " + from + where, INDEX, x -> x.fill(banner, 0, from, size, 8));
            add("3: fill, end behind it, from " + from + where, INDEX, x -> x.fill(banner, 0, from, from + 1, 8));
            add("3: fill, level -1, from " + from + where, INDEX, x -> x.fill(banner, 0, from, size, -1));
        }
        for (int end : Check.outside(2, size)) {
            add("3: fill, end " + end + where, ARGUMENT, x -> x.fill(banner, 0, 1, end, 8));
            add("3: fill, level 16, end " + end + where, ARGUMENT, x -> x.fill(banner, 0, 1, end, 16));
        }
        for (int level : NO_LEVELS) {
            add("3: fill, level " + level + where, ARGUMENT, x -> x.fill(banner, 0, 0, size, level));
        }
    }

    private void addForBusy() {
        add("9: clean while printing", STATE, x -> x.clean(0));
        for (int p = 0; p < 3; p++) {
            int printer = p;
            add("11: put what is wet", STATE, x -> x.put(0, 0, printer));
            add("11: put what is being printed", STATE, x -> x.put(0, 1, printer));
            add("11: put what is in a queue", STATE, x -> x.put(0, 2, printer));
            add("11: put what is wet, banner 1", STATE, x -> x.put(1, 1, printer));
        }
        add("18: seam, the left strip printed alone", STATE, x -> x.seam(0, 0));
        add("18: seam, none printed", STATE, x -> x.seam(0, 1));
        add("18: seam, the right strip printed alone", STATE, x -> x.seam(1, 0));
    }

    private void addForFull() {
        add("2: begin a sixth", STATE, x -> x.begin(8, 4, 1, 10, 5));
        add("2: begin a sixth, least", STATE, x -> x.begin(4, 2, 0, 1, 0));
        add("2: begin a sixth, most", STATE, x -> x.begin(32, 12, 3, 40, 10000));
        add("9: clean while printing", STATE, x -> x.clean(2));
        add("11: put what is in a queue", STATE, x -> x.put(4, 0, 0));
        add("11: put what is being printed", STATE, x -> x.put(3, 0, 0));
    }

    private StitchBanner made() {
        StitchBanner x = new StitchBanner();
        making.calls(x);
        return x;
    }

    private void compareAll() {
        List<Object> due = answers(made());
        for (Refused one : refused) {
            StitchBanner x = made();
            String what = one.what + ", " + name;
            Check.due(what, one.due, () -> one.use.on(x));
            Check.due(what + ", again", one.due, () -> one.use.on(x));
            Check.due(what + ", answers behind it", due, () -> answers(x));
        }
    }

    private void ask(List<Object> answers, Check.Call call) {
        answers.add(Check.outcome(call));
        calls++;
    }

    /** What the shop answers, first by calls that change nothing, and then by those that go on. */
    private List<Object> answers(StitchBanner x) {
        List<Object> answers = new ArrayList<>();
        // Those that make the shop, and the refused one twice.
        calls = 20;
        for (int b = 0; b < columns.length; b++) {
            askBanner(answers, x, b);
        }
        for (int p = 0; p < 3; p++) {
            int printer = p;
            ask(answers, () -> x.prints(printer));
            ask(answers, () -> x.used(false, printer));
            for (int r = 0; r < 8; r++) {
                int row = r;
                ask(answers, () -> x.patch(printer, row, 9));
            }
        }
        askForward(answers, x);
        if (calls > MOST_CALLS) {
            throw new IllegalStateException("more calls than are promised: " + calls);
        }
        return answers;
    }

    private void askBanner(List<Object> answers, StitchBanner x, int banner) {
        int strips = x.strips(banner);
        ask(answers, () -> strips);
        ask(answers, () -> x.spilt(banner));
        ask(answers, () -> x.used(true, banner));
        ask(answers, () -> x.meanError(banner));
        for (int s = 0; s < strips; s++) {
            int strip = s;
            ask(answers, () -> x.dry(banner, strip));
            ask(answers, () -> x.seam(banner, strip));
        }
        for (int r = 0; r < 8; r++) {
            int row = r;
            for (int c = 0; c < columns[banner]; c++) {
                int column = c;
                ask(answers, () -> x.ink(banner, row, column));
            }
        }
        for (int c = 0; c < columns[banner]; c++) {
            int column = c;
            ask(answers, () -> x.toLay(banner, 0, 0, column));
            ask(answers, () -> x.toLay(banner, strips - 1, 7, column));
        }
    }

    /** Shows what no answer tells at once: queues, gains, the time, what a printing will lay, who begins next. */
    private void askForward(List<Object> answers, StitchBanner x) {
        ask(answers, () -> x.begin(4, 2, 0, 40, 0));
        ask(answers, () -> x.put(columns.length, 0, 1));
        for (int t = 0; t < 12; t++) {
            ask(answers, () -> x.pass(1));
            for (int p = 0; p < 3; p++) {
                int printer = p;
                ask(answers, () -> x.prints(printer));
            }
        }
        for (int b = 0; b < columns.length; b++) {
            int banner = b;
            for (int s = 0; s < 3; s++) {
                int strip = s;
                ask(answers, () -> x.dry(banner, strip));
            }
            ask(answers, () -> x.used(true, banner));
            for (int r = 0; r < 8; r++) {
                int row = r;
                ask(answers, () -> x.fill(banner, row, 0, columns[banner], 15));
            }
        }
        for (int p = 0; p < 3; p++) {
            int printer = p;
            ask(answers, () -> x.used(false, printer));
            ask(answers, () -> x.setGain(printer, 100));
            ask(answers, () -> x.patch(printer, 1, 7));
            ask(answers, () -> x.clean(printer));
        }
    }
}
