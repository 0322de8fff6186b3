import java.util.ArrayList;
import java.util.Comparator;
import java.util.List;

/** The document once more, written as plainly as it goes and in another way than the class: for comparison alone. */
final class PlainModel {
    private static final class Strip {
        int banner;
        int number;
        int due;
        int first;
        int last;
        boolean isPrinted;
        int dry = -1;
        int[][] laid = new int[8][32];
    }

    private static final class Banner {
        int columns;
        int overlap;
        int limit;
        int taken;
        int[][] levels = new int[8][32];
        List<Strip> strips = new ArrayList<>();
    }

    private static final class Printer {
        int gain = 100;
        int correction = 100;
        int used;
        boolean[] blocked = new boolean[8];
        List<Strip> queue = new ArrayList<>();
        Strip printing;
        int endsAt;
    }

    private final List<Banner> banners = new ArrayList<>();
    private final List<Printer> printers = List.of(new Printer(), new Printer(), new Printer());
    private int time;

    private static void index(boolean holds) {
        if (!holds) {
            throw new IndexOutOfBoundsException();
        }
    }

    private static void argument(boolean holds) {
        if (!holds) {
            throw new IllegalArgumentException();
        }
    }

    private static void state(boolean holds) {
        if (!holds) {
            throw new IllegalStateException();
        }
    }

    private Banner banner(int number) {
        index(number >= 0 && number < banners.size());
        return banners.get(number);
    }

    private Strip strip(int banner, int number) {
        index(number >= 0 && number < banner(banner).strips.size());
        return banner(banner).strips.get(number);
    }

    private Printer printer(int number) {
        index(number >= 0 && number < 3);
        return printers.get(number);
    }

    int begin(int columns, int width, int overlap, int limit, int due) {
        argument(columns >= 4 && columns <= 32);
        argument(width >= 2 && width <= 12);
        argument(overlap >= 0 && overlap <= 3);
        argument(overlap * 2 < width);
        argument(limit >= 1 && limit <= 40);
        argument(due >= 0 && due <= 10000);
        state(banners.size() < 5);
        Banner b = new Banner();
        b.columns = columns;
        b.overlap = overlap;
        b.limit = limit;
        for (int k = 0;; k++) {
            Strip s = new Strip();
            s.banner = banners.size();
            s.number = k;
            s.due = due;
            s.first = k * (width - overlap);
            s.last = s.first;
            for (int i = 0; i < width && s.first + i < columns; i++) {
                s.last = s.first + i;
            }
            b.strips.add(s);
            if (s.last == columns - 1) {
                break;
            }
        }
        banners.add(b);
        return banners.size() - 1;
    }

    int fill(int banner, int row, int from, int end, int level) {
        Banner b = banner(banner);
        index(row >= 0 && row < 8);
        index(from >= 0 && from < b.columns);
        argument(end > from && end <= b.columns);
        argument(level >= 0 && level <= 15);
        int others = 0;
        for (int c = from; c < end; c++) {
            others += b.levels[row][c] == level ? 0 : 1;
            b.levels[row][c] = level;
        }
        return others;
    }

    int strips(int banner) {
        return banner(banner).strips.size();
    }

    private static boolean has(Strip s, int column) {
        return s.first <= column && column <= s.last;
    }

    int toLay(int banner, int strip, int row, int column) {
        Banner b = banner(banner);
        Strip asked = strip(banner, strip);
        index(row >= 0 && row < 8);
        index(column >= 0 && column < b.columns);
        List<Strip> owners = new ArrayList<>();
        for (Strip s : b.strips) {
            if (has(s, column)) {
                owners.add(s);
            }
        }
        int level = b.levels[row][column];
        if (!owners.contains(asked)) {
            return 0;
        }
        if (owners.size() == 1) {
            return level;
        }
        return owners.get(0) == asked ? level - level / 2 : level / 2;
    }

    int setGain(int printer, int gain) {
        Printer p = printer(printer);
        argument(gain >= 50 && gain <= 200);
        int before = p.gain;
        p.gain = gain;
        return before;
    }

    int match(int printer) {
        Printer p = printer(printer);
        p.correction = 10000 / p.gain + (10000 % p.gain == 0 ? 0 : 1);
        return p.correction;
    }

    private static int blockedOf(Printer p) {
        int count = 0;
        for (boolean b : p.blocked) {
            count += b ? 1 : 0;
        }
        return count;
    }

    int block(int printer, int nozzle) {
        Printer p = printer(printer);
        index(nozzle >= 0 && nozzle < 8);
        p.blocked[nozzle] = true;
        return blockedOf(p);
    }

    int clean(int printer) {
        Printer p = printer(printer);
        state(p.printing == null);
        int freed = blockedOf(p);
        p.blocked = new boolean[8];
        p.used += 20;
        return freed;
    }

    private static int[] column(Printer p, int[] toLay) {
        int[] own = new int[8];
        int[] more = new int[8];
        for (int r = 0; r < 8; r++) {
            own[r] = Math.min(15, toLay[r] * p.correction / 100);
        }
        for (int r = 0; r < 8; r++) {
            if (p.blocked[r]) {
                int up = own[r] - own[r] / 2;
                if (r > 0) {
                    more[r - 1] += up;
                }
                if (r < 7) {
                    more[r + 1] += own[r] - up;
                }
            }
        }
        int[] laid = new int[8];
        for (int r = 0; r < 8; r++) {
            laid[r] = p.blocked[r] ? 0 : Math.min(15, own[r] + more[r]) * p.gain / 100;
        }
        return laid;
    }

    int patch(int printer, int row, int level) {
        Printer p = printer(printer);
        index(row >= 0 && row < 8);
        argument(level >= 0 && level <= 15);
        int[] levels = {level, level, level, level, level, level, level, level};
        return column(p, levels)[row];
    }

    int put(int banner, int strip, int printer) {
        Strip s = strip(banner, strip);
        Printer chosen = printer(printer);
        for (Printer p : printers) {
            state(!p.queue.contains(s));
            state(p.printing != s);
        }
        state(!s.isPrinted || s.dry <= time);
        chosen.queue.add(s);
        return chosen.queue.size();
    }

    int pass(int ticks) {
        argument(ticks >= 1 && ticks <= 200);
        int printed = 0;
        for (int i = 0; i < ticks; i++) {
            for (Printer p : printers) {
                if (p.printing == null && !p.queue.isEmpty()) {
                    p.queue.sort(Comparator.<Strip>comparingInt(s -> s.due).thenComparingInt(s -> s.banner)
                        .thenComparingInt(s -> s.number));
                    p.printing = p.queue.remove(0);
                    p.endsAt = time + p.printing.last - p.printing.first + 1;
                }
            }
            time++;
            for (Printer p : printers) {
                if (p.printing != null && p.endsAt == time) {
                    printed++;
                    end(p, p.printing);
                    p.printing = null;
                }
            }
        }
        return printed;
    }

    private void end(Printer p, Strip s) {
        int greatest = 0;
        for (int c = s.first; c <= s.last; c++) {
            int[] toLay = new int[8];
            for (int r = 0; r < 8; r++) {
                toLay[r] = toLay(s.banner, s.number, r, c);
            }
            int[] laid = column(p, toLay);
            for (int r = 0; r < 8; r++) {
                s.laid[r][c] = laid[r];
                p.used += laid[r];
                banner(s.banner).taken += laid[r];
                greatest = Math.max(greatest, laid[r]);
            }
        }
        s.isPrinted = true;
        s.dry = time + greatest;
    }

    int prints(int printer) {
        Strip s = printer(printer).printing;
        return s == null ? 0 : 1000 * s.banner + 10 * s.number + 1;
    }

    int dry(int banner, int strip) {
        return strip(banner, strip).dry;
    }

    private static int all(Banner b, int row, int column) {
        int sum = 0;
        for (Strip s : b.strips) {
            sum += s.laid[row][column];
        }
        return sum;
    }

    int ink(int banner, int row, int column) {
        Banner b = banner(banner);
        index(row >= 0 && row < 8);
        index(column >= 0 && column < b.columns);
        return Math.min(b.limit, all(b, row, column));
    }

    int spilt(int banner) {
        Banner b = banner(banner);
        int count = 0;
        for (int r = 0; r < 8; r++) {
            for (int c = 0; c < b.columns; c++) {
                count += all(b, r, c) > b.limit ? 1 : 0;
            }
        }
        return count;
    }

    int used(boolean isBanner, int number) {
        return isBanner ? banner(number).taken : printer(number).used;
    }

    private int error(int banner, int row, int column) {
        return Math.abs(ink(banner, row, column) - banner(banner).levels[row][column]);
    }

    int seam(int banner, int seam) {
        Banner b = banner(banner);
        index(seam >= 0 && seam <= b.strips.size() - 2);
        Strip left = b.strips.get(seam);
        Strip right = b.strips.get(seam + 1);
        state(left.isPrinted && right.isPrinted);
        int greatest = 0;
        for (int c = 0; c < b.columns; c++) {
            boolean both = has(left, c) && has(right, c);
            boolean beside = b.overlap == 0 && (c == left.last || c == right.first);
            for (int r = 0; r < 8 && (both || beside); r++) {
                greatest = Math.max(greatest, error(banner, r, c));
            }
        }
        return greatest;
    }

    float meanError(int banner) {
        Banner b = banner(banner);
        int sum = 0;
        for (int r = 0; r < 8; r++) {
            for (int c = 0; c < b.columns; c++) {
                sum += error(banner, r, c);
            }
        }
        return (float) sum / (float) (8 * b.columns);
    }
}
