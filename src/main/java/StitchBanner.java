/** Great prints in strips: banners cut into strips, printers with gain and nozzles, queues, ink and seams. */
public final class StitchBanner {
    private static final int MOST_BANNERS = 5;
    private static final int PRINTERS = 3;
    private static final int ROWS = 8;
    private static final int LEAST_COLUMNS = 4;
    private static final int MOST_COLUMNS = 32;
    private static final int LEAST_WIDTH = 2;
    private static final int MOST_WIDTH = 12;
    private static final int MOST_OVERLAP = 3;
    private static final int MOST_LIMIT = 40;
    private static final int MOST_DUE = 10000;
    // A strip begins at least two columns behind the one before it.
    private static final int MOST_STRIPS = MOST_COLUMNS / 2;
    private static final int MOST_LEVEL = 15;
    private static final int LEAST_GAIN = 50;
    private static final int MOST_GAIN = 200;
    private static final int WHOLE = 100;
    private static final int CLEANING_INK = 20;
    private static final int MOST_TICKS = 200;
    private static final int NONE = -1;

    private final Banner[] banners = new Banner[MOST_BANNERS];
    private final Printer[] printers = new Printer[PRINTERS];
    private int bannerCount = 0;
    private int time = 0;

    public StitchBanner() {
        for (int i = 0; i < printers.length; i++) {
            printers[i] = new Printer();
        }
    }

    // ---- banners

    public int begin(int columns, int width, int overlap, int limit, int due)
            throws IllegalArgumentException, IllegalStateException {
        if (!isWithin(columns, LEAST_COLUMNS, MOST_COLUMNS)) {
            throw new IllegalArgumentException("columns");
        }
        if (!isWithin(width, LEAST_WIDTH, MOST_WIDTH)) {
            throw new IllegalArgumentException("width");
        }
        if (!isWithin(overlap, 0, MOST_OVERLAP) || 2 * overlap >= width) {
            throw new IllegalArgumentException("overlap");
        }
        if (!isWithin(limit, 1, MOST_LIMIT)) {
            throw new IllegalArgumentException("limit");
        }
        if (!isWithin(due, 0, MOST_DUE)) {
            throw new IllegalArgumentException("due");
        }
        int number = bannerCount;
        if (number < 0 || number >= banners.length) {
            throw new IllegalStateException("no more banners");
        }
        banners[number] = new Banner(columns, width, overlap, limit, due);
        bannerCount = number + 1;
        return number;
    }

    public int fill(int banner, int row, int from, int end, int level)
            throws IndexOutOfBoundsException, IllegalArgumentException {
        Banner filled = bannerAt(banner);
        if (filled == null || !isRow(row) || !filled.hasColumn(from)) {
            throw new IndexOutOfBoundsException("banner, row or column");
        }
        // "from" is a column, so from + 1 can't wrap round.
        if (!isWithin(end, from + 1, filled.columns)) {
            throw new IllegalArgumentException("end");
        }
        if (!isWithin(level, 0, MOST_LEVEL)) {
            throw new IllegalArgumentException("level");
        }
        return filled.setLevels(row, from, end, level);
    }

    public int strips(int banner) throws IndexOutOfBoundsException {
        Banner asked = bannerAt(banner);
        if (asked == null) {
            throw new IndexOutOfBoundsException("banner");
        }
        return asked.stripCount;
    }

    public int toLay(int banner, int strip, int row, int column) throws IndexOutOfBoundsException {
        Banner asked = bannerAt(banner);
        Strip part = stripAt(asked, strip);
        if (asked == null || part == null || !isRow(row) || !asked.hasColumn(column)) {
            throw new IndexOutOfBoundsException("banner, strip, row or column");
        }
        return asked.share(part, row, column);
    }

    // ---- printers

    public int setGain(int printer, int gain) throws IndexOutOfBoundsException, IllegalArgumentException {
        Printer changed = printerAt(printer);
        if (changed == null) {
            throw new IndexOutOfBoundsException("printer");
        }
        if (!isWithin(gain, LEAST_GAIN, MOST_GAIN)) {
            throw new IllegalArgumentException("gain");
        }
        int before = changed.gain;
        changed.gain = gain;
        return before;
    }

    public int match(int printer) throws IndexOutOfBoundsException {
        Printer matched = printerAt(printer);
        if (matched == null) {
            throw new IndexOutOfBoundsException("printer");
        }
        return matched.correctByGain();
    }

    public int block(int printer, int nozzle) throws IndexOutOfBoundsException {
        Printer changed = printerAt(printer);
        if (changed == null || !isRow(nozzle)) {
            throw new IndexOutOfBoundsException("printer or nozzle");
        }
        changed.blockNozzle(nozzle);
        return changed.blockedCount();
    }

    public int clean(int printer) throws IndexOutOfBoundsException, IllegalStateException {
        Printer cleaned = printerAt(printer);
        if (cleaned == null) {
            throw new IndexOutOfBoundsException("printer");
        }
        if (cleaned.isPrinting()) {
            throw new IllegalStateException("it is printing");
        }
        int freed = cleaned.blockedCount();
        cleaned.freeNozzles();
        cleaned.inkUsed += CLEANING_INK;
        return freed;
    }

    public int patch(int printer, int row, int level) throws IndexOutOfBoundsException, IllegalArgumentException {
        Printer asked = printerAt(printer);
        if (asked == null || !isRow(row)) {
            throw new IndexOutOfBoundsException("printer or row");
        }
        if (!isWithin(level, 0, MOST_LEVEL)) {
            throw new IllegalArgumentException("level");
        }
        for (int i = 0; i < ROWS; i++) {
            asked.setDose(i, level);
        }
        return asked.laidInRow(row);
    }

    // ---- printing

    public int put(int banner, int strip, int printer) throws IndexOutOfBoundsException, IllegalStateException {
        Strip part = stripAt(bannerAt(banner), strip);
        Printer chosen = printerAt(printer);
        if (part == null || chosen == null) {
            throw new IndexOutOfBoundsException("banner, strip or printer");
        }
        if (part.queue != NONE || part.isPrinting || part.dryTime > time) {
            throw new IllegalStateException("waiting, being printed or wet");
        }
        part.queue = printer;
        chosen.waiting++;
        return chosen.waiting;
    }

    public int pass(int ticks) throws IllegalArgumentException {
        if (!isWithin(ticks, 1, MOST_TICKS)) {
            throw new IllegalArgumentException("ticks");
        }
        int printed = 0;
        for (int tick = 0; tick < ticks; tick++) {
            startIdlePrinters();
            time++;
            printed += endTick();
        }
        return printed;
    }

    public int prints(int printer) throws IndexOutOfBoundsException {
        Printer asked = printerAt(printer);
        if (asked == null) {
            throw new IndexOutOfBoundsException("printer");
        }
        Strip part = asked.strip;
        return part == null ? 0 : 1000 * asked.bannerNumber + 10 * part.number + 1;
    }

    public int dry(int banner, int strip) throws IndexOutOfBoundsException {
        Strip part = stripAt(bannerAt(banner), strip);
        if (part == null) {
            throw new IndexOutOfBoundsException("banner or strip");
        }
        return part.dryTime;
    }

    // ---- ink and seams

    public int ink(int banner, int row, int column) throws IndexOutOfBoundsException {
        Banner asked = bannerAt(banner);
        if (asked == null || !isRow(row) || !asked.hasColumn(column)) {
            throw new IndexOutOfBoundsException("banner, row or column");
        }
        return asked.inkAt(row, column);
    }

    public int spilt(int banner) throws IndexOutOfBoundsException {
        Banner asked = bannerAt(banner);
        if (asked == null) {
            throw new IndexOutOfBoundsException("banner");
        }
        return asked.spiltDots();
    }

    public int used(boolean isBanner, int number) throws IndexOutOfBoundsException {
        if (isBanner) {
            Banner taker = bannerAt(number);
            if (taker == null) {
                throw new IndexOutOfBoundsException("banner");
            }
            return taker.inkTaken;
        }
        Printer user = printerAt(number);
        if (user == null) {
            throw new IndexOutOfBoundsException("printer");
        }
        return user.inkUsed;
    }

    public int seam(int banner, int seam) throws IndexOutOfBoundsException, IllegalStateException {
        Banner asked = bannerAt(banner);
        Strip left = stripAt(asked, seam);
        // With a strip at the left, seam + 1 can't wrap round.
        Strip right = left == null ? null : stripAt(asked, seam + 1);
        if (asked == null || left == null || right == null) {
            throw new IndexOutOfBoundsException("banner or seam");
        }
        if (!left.wasPrinted() || !right.wasPrinted()) {
            throw new IllegalStateException("a strip was not printed");
        }
        return asked.seamError(left, right);
    }

    public float meanError(int banner) throws IndexOutOfBoundsException {
        Banner asked = bannerAt(banner);
        if (asked == null) {
            throw new IndexOutOfBoundsException("banner");
        }
        int dots = ROWS * asked.columns;
        return dots < 1 ? 0f : (float) asked.errorSum() / (float) dots;
    }

    private void startIdlePrinters() {
        for (int i = 0; i < printers.length; i++) {
            Printer printer = printers[i];
            if (printer != null && !printer.isPrinting() && printer.waiting > 0) {
                takeFirstWaiting(printer, i);
            }
        }
    }

    /** Lets an idle printer take the strip that goes first of those in its queue. */
    private void takeFirstWaiting(Printer printer, int printerNumber) {
        Banner earliest = null;
        Strip first = null;
        int bannerNumber = NONE;
        for (int i = 0; i < banners.length; i++) {
            Banner banner = banners[i];
            // Only an earlier due time goes before a banner of a lower number.
            if (banner == null || (earliest != null && banner.due >= earliest.due)) {
                continue;
            }
            Strip strip = banner.firstWaitingFor(printerNumber);
            if (strip != null) {
                earliest = banner;
                first = strip;
                bannerNumber = i;
            }
        }
        if (earliest != null && first != null) {
            printer.start(earliest, first, bannerNumber);
        }
    }

    /** Returns how many strips get printed by the end of the tick. */
    private int endTick() {
        int printed = 0;
        for (int i = 0; i < printers.length; i++) {
            Printer printer = printers[i];
            if (printer != null && printer.endsStrip(time)) {
                printed++;
            }
        }
        return printed;
    }

    private Banner bannerAt(int number) {
        return number >= 0 && number < banners.length ? banners[number] : null;
    }

    private Printer printerAt(int number) {
        return number >= 0 && number < printers.length ? printers[number] : null;
    }

    private static Strip stripAt(Banner banner, int number) {
        return banner == null ? null : banner.stripOf(number);
    }

    private static boolean isRow(int number) {
        return number >= 0 && number < ROWS;
    }

    private static boolean isWithin(int value, int least, int most) {
        return value >= least && value <= most;
    }

    /** Numbers by row and column of a banner, 0 at first; outside there is nothing. */
    private static final class Dots {
        private final int[] values = new int[ROWS * MOST_COLUMNS];

        int at(int row, int column) {
            int place = placeOf(row, column);
            return place >= 0 && place < values.length ? values[place] : 0;
        }

        /** Returns the number before. */
        int replace(int row, int column, int value) {
            int place = placeOf(row, column);
            if (place < 0 || place >= values.length) {
                return 0;
            }
            int before = values[place];
            values[place] = value;
            return before;
        }

        private static int placeOf(int row, int column) {
            boolean exists = row >= 0 && row < ROWS && column >= 0 && column < MOST_COLUMNS;
            return exists ? row * MOST_COLUMNS + column : NONE;
        }
    }

    /** Some columns of a banner, printed together. */
    private static final class Strip {
        private final int number;
        private final int first;
        private final int end;
        // The columns before leftEnd belong to the strip at the left too,
        // those from rightStart on to the strip at the right.
        private final int leftEnd;
        private final int rightStart;
        private final Dots laid = new Dots();
        private int queue = NONE;
        private boolean isPrinting = false;
        private int dryTime = NONE;

        Strip(int number, int first, int end, int leftEnd, int rightStart) {
            this.number = number;
            this.first = first;
            this.end = end;
            this.leftEnd = leftEnd;
            this.rightStart = rightStart;
        }

        boolean wasPrinted() {
            return dryTime != NONE;
        }

        /** What of a level in a column this strip is to lay. */
        int shareOf(int level, int column) {
            if (column < first || column >= end) {
                return 0;
            }
            if (column >= rightStart) {
                return (level + 1) / 2;
            }
            return column < leftEnd ? level / 2 : level;
        }
    }

    /** A picture on cloth, its strips, and the ink on it. */
    private static final class Banner {
        private final int columns;
        private final int limit;
        private final int due;
        private final Dots levels = new Dots();
        // What all printed strips lay, kept as a sum, so that no call has to go through the strips.
        private final Dots laid = new Dots();
        private final Strip[] parts = new Strip[MOST_STRIPS];
        private final int stripCount;
        private int inkTaken = 0;

        Banner(int columns, int width, int overlap, int limit, int due) {
            this.columns = columns;
            this.limit = limit;
            this.due = due;
            int step = width - overlap;
            int count = 0;
            int end = 0;
            while (end < columns && count < parts.length) {
                int first = count * step;
                end = Math.min(first + width, columns);
                int leftEnd = count == 0 ? first : first + overlap;
                int rightStart = end == columns ? end : first + step;
                parts[count] = new Strip(count, first, end, leftEnd, rightStart);
                count++;
            }
            this.stripCount = count;
        }

        boolean hasColumn(int column) {
            return column >= 0 && column < columns;
        }

        Strip stripOf(int number) {
            return number >= 0 && number < parts.length ? parts[number] : null;
        }

        /** Returns how many dots get another level. */
        int setLevels(int row, int from, int end, int level) {
            int changed = 0;
            for (int column = from; column < end; column++) {
                if (levels.replace(row, column, level) != level) {
                    changed++;
                }
            }
            return changed;
        }

        int share(Strip strip, int row, int column) {
            return strip.shareOf(levels.at(row, column), column);
        }

        Strip firstWaitingFor(int printerNumber) {
            for (int i = 0; i < parts.length; i++) {
                Strip strip = parts[i];
                if (strip != null && strip.queue == printerNumber) {
                    return strip;
                }
            }
            return null;
        }

        void layDot(Strip strip, int row, int column, int amount) {
            int before = strip.laid.replace(row, column, amount);
            laid.replace(row, column, laid.at(row, column) - before + amount);
            inkTaken += amount;
        }

        int inkAt(int row, int column) {
            return Math.min(laid.at(row, column), limit);
        }

        int spiltDots() {
            int spiltDots = 0;
            for (int row = 0; row < ROWS; row++) {
                for (int column = 0; column < columns; column++) {
                    if (laid.at(row, column) > limit) {
                        spiltDots++;
                    }
                }
            }
            return spiltDots;
        }

        private int errorAt(int row, int column) {
            return Math.abs(inkAt(row, column) - levels.at(row, column));
        }

        int errorSum() {
            int sum = 0;
            for (int row = 0; row < ROWS; row++) {
                for (int column = 0; column < columns; column++) {
                    sum += errorAt(row, column);
                }
            }
            return sum;
        }

        int seamError(Strip left, Strip right) {
            // Without overlap the right one begins behind the last column of the left one, and both columns count.
            int from = Math.min(left.end - 1, right.first);
            int to = Math.max(left.end - 1, right.first);
            int greatest = 0;
            for (int row = 0; row < ROWS; row++) {
                for (int column = from; column <= to; column++) {
                    greatest = Math.max(greatest, errorAt(row, column));
                }
            }
            return greatest;
        }
    }

    /** A printer, and the strip that it prints. */
    private static final class Printer {
        private int gain = WHOLE;
        private int correction = WHOLE;
        private final boolean[] blocked = new boolean[ROWS];
        // What each nozzle should lay in the column at hand: kept so that no column needs a new row.
        private final int[] doses = new int[ROWS];
        private int inkUsed = 0;
        private int waiting = 0;
        private Banner banner = null;
        private Strip strip = null;
        private int bannerNumber = NONE;
        private int ticksLeft = 0;

        boolean isPrinting() {
            return strip != null;
        }

        /** Returns the new correction. */
        int correctByGain() {
            if (gain > 0) {
                correction = (WHOLE * WHOLE + gain - 1) / gain;
            }
            return correction;
        }

        void blockNozzle(int nozzle) {
            if (nozzle >= 0 && nozzle < blocked.length) {
                blocked[nozzle] = true;
            }
        }

        void freeNozzles() {
            for (int i = 0; i < blocked.length; i++) {
                blocked[i] = false;
            }
        }

        int blockedCount() {
            int count = 0;
            for (int i = 0; i < blocked.length; i++) {
                if (blocked[i]) {
                    count++;
                }
            }
            return count;
        }

        private boolean isBlocked(int row) {
            return row >= 0 && row < blocked.length && blocked[row];
        }

        void setDose(int row, int amount) {
            if (row >= 0 && row < doses.length) {
                doses[row] = Math.min(amount * correction / WHOLE, MOST_LEVEL);
            }
        }

        private int doseOf(int row) {
            return row >= 0 && row < doses.length ? doses[row] : 0;
        }

        private int doseHeldBack(int row) {
            return isBlocked(row) ? doseOf(row) : 0;
        }

        /** What is laid in a row, once the doses of all rows of the column are set. */
        int laidInRow(int row) {
            if (isBlocked(row)) {
                return 0;
            }
            int fromBelow = (doseHeldBack(row + 1) + 1) / 2;
            int fromAbove = doseHeldBack(row - 1) / 2;
            return Math.min(doseOf(row) + fromBelow + fromAbove, MOST_LEVEL) * gain / WHOLE;
        }

        void start(Banner onto, Strip next, int ontoNumber) {
            next.queue = NONE;
            next.isPrinting = true;
            waiting--;
            banner = onto;
            strip = next;
            bannerNumber = ontoNumber;
            ticksLeft = next.end - next.first;
        }

        /** Prints for a tick, and returns whether its strip is printed at its end, now. */
        boolean endsStrip(int now) {
            Banner onto = banner;
            Strip done = strip;
            if (onto == null || done == null) {
                return false;
            }
            ticksLeft--;
            if (ticksLeft > 0) {
                return false;
            }
            done.dryTime = now + layStrip(onto, done);
            done.isPrinting = false;
            banner = null;
            strip = null;
            return true;
        }

        /** Returns the greatest number that it lays. */
        private int layStrip(Banner onto, Strip done) {
            int greatest = 0;
            for (int column = done.first; column < done.end; column++) {
                for (int row = 0; row < ROWS; row++) {
                    setDose(row, onto.share(done, row, column));
                }
                for (int row = 0; row < ROWS; row++) {
                    int amount = laidInRow(row);
                    onto.layDot(done, row, column, amount);
                    inkUsed += amount;
                    greatest = Math.max(greatest, amount);
                }
            }
            return greatest;
        }
    }
}
