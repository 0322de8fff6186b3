import java.util.Random;

/** Promises 1 to 19: runs of 512 calls, each answered by the class and by the plain model alike. */
public final class RandomRunsTest {
    private static final int RUNS = 3000;
    private static final int CALLS = 512;
    private static final int[] FAR = {Integer.MIN_VALUE, Integer.MAX_VALUE, 1 << 30, -1000};

    private final Random random;
    private final StitchBanner real = new StitchBanner();
    private final PlainModel model = new PlainModel();
    // How often an argument is wrong, of 1000: some runs have none, so that they go deep.
    private final int wrongs;
    private final int[] columns = new int[5];
    private final int[] strips = new int[5];
    private int banners = 0;

    private RandomRunsTest(long seed) {
        random = new Random(seed);
        int[] shares = {0, 20, 100};
        wrongs = shares[random.nextInt(shares.length)];
    }

    public static void main(String[] args) {
        for (int run = 0; run < RUNS && Check.isAllDue(); run++) {
            RandomRunsTest one = new RandomRunsTest(run);
            for (int call = 0; call < CALLS && Check.isAllDue(); call++) {
                one.compareCall("run " + run + ", call " + call);
            }
        }
        Check.end();
    }

    /** Mostly one of least to most, seldom one beside them or far away. */
    private int pick(int least, int most) {
        if (random.nextInt(1000) >= wrongs) {
            return least + random.nextInt(Math.max(most - least + 1, 1));
        }
        int way = random.nextInt(6);
        return way == 0 ? least - 1 : way == 1 ? most + 1 : way < 4 ? FAR[random.nextInt(FAR.length)]
            : least + random.nextInt(Math.max(most - least + 1, 1));
    }

    private int columnsOf(int banner) {
        return banner >= 0 && banner < banners ? columns[banner] : 4;
    }

    private int stripsOf(int banner) {
        return banner >= 0 && banner < banners ? strips[banner] : 1;
    }

    private void same(String what, Check.Call ofModel, Check.Call ofClass) {
        Check.due(what, Check.outcome(ofModel), ofClass);
    }

    private void compareCall(String where) {
        int way = random.nextInt(100);
        if (way < 4 || banners == 0 && way < 60) {
            compareBegin(where);
        } else if (way < 12) {
            compareFill(where);
        } else if (way < 30) {
            comparePrinters(where);
        } else if (way < 62) {
            comparePrinting(where);
        } else {
            compareAnswers(where);
        }
    }

    private void compareBegin(String where) {
        int width = pick(2, 12);
        int c = pick(4, 32);
        int o = random.nextInt(1000) < wrongs ? pick(0, 3) : random.nextInt(Math.max(1, Math.min(3, (width - 1) / 2) + 1));
        int l = pick(1, random.nextBoolean() ? 12 : 40);
        int d = random.nextBoolean() ? pick(0, 2) : pick(0, 10000);
        Check.Call ofModel = () -> model.begin(c, width, o, l, d);
        Object due = Check.outcome(ofModel);
        Check.due(where + " begin(" + c + ", " + width + ", " + o + ", " + l + ", " + d + ")", due,
            () -> real.begin(c, width, o, l, d));
        if (due instanceof Integer) {
            columns[banners] = c;
            strips[banners] = model.strips(banners);
            banners++;
        }
    }

    private void compareFill(String where) {
        int b = pick(0, banners - 1);
        int row = pick(0, 7);
        int from = pick(0, columnsOf(b) - 1);
        int end = random.nextBoolean() ? columnsOf(b) : pick(from + 1, columnsOf(b));
        int level = pick(0, 15);
        same(where + " fill(" + b + ", " + row + ", " + from + ", " + end + ", " + level + ")",
            () -> model.fill(b, row, from, end, level), () -> real.fill(b, row, from, end, level));
    }

    private void comparePrinters(String where) {
        int p = pick(0, 2);
        int row = pick(0, 7);
        int level = pick(0, 15);
        int gain = pick(50, 200);
        int way = random.nextInt(12);
        if (way < 3) {
            same(where + " setGain(" + p + ", " + gain + ")", () -> model.setGain(p, gain), () -> real.setGain(p, gain));
        } else if (way < 5) {
            same(where + " match(" + p + ")", () -> model.match(p), () -> real.match(p));
        } else if (way < 7) {
            same(where + " block(" + p + ", " + row + ")", () -> model.block(p, row), () -> real.block(p, row));
        } else if (way < 9) {
            same(where + " clean(" + p + ")", () -> model.clean(p), () -> real.clean(p));
        } else {
            same(where + " patch(" + p + ", " + row + ", " + level + ")", () -> model.patch(p, row, level),
                () -> real.patch(p, row, level));
        }
    }

    private void comparePrinting(String where) {
        int b = pick(0, banners - 1);
        int s = pick(0, stripsOf(b) - 1);
        int p = pick(0, 2);
        int ticks = pick(1, random.nextInt(8) == 0 ? 200 : 9);
        int way = random.nextInt(12);
        if (way < 6) {
            same(where + " put(" + b + ", " + s + ", " + p + ")", () -> model.put(b, s, p), () -> real.put(b, s, p));
        } else if (way < 9) {
            same(where + " pass(" + ticks + ")", () -> model.pass(ticks), () -> real.pass(ticks));
        } else if (way < 10) {
            same(where + " prints(" + p + ")", () -> model.prints(p), () -> real.prints(p));
        } else {
            same(where + " dry(" + b + ", " + s + ")", () -> model.dry(b, s), () -> real.dry(b, s));
        }
    }

    private void compareAnswers(String where) {
        int b = pick(0, banners - 1);
        int s = pick(0, stripsOf(b) - 1);
        int seam = pick(0, Math.max(0, stripsOf(b) - 2));
        int row = pick(0, 7);
        int column = pick(0, columnsOf(b) - 1);
        boolean isBanner = random.nextBoolean();
        int number = isBanner ? b : pick(0, 2);
        switch (random.nextInt(8)) {
            case 0 -> same(where + " strips(" + b + ")", () -> model.strips(b), () -> real.strips(b));
            case 1 -> same(where + " toLay(" + b + ", " + s + ", " + row + ", " + column + ")",
                () -> model.toLay(b, s, row, column), () -> real.toLay(b, s, row, column));
            case 2 -> same(where + " spilt(" + b + ")", () -> model.spilt(b), () -> real.spilt(b));
            case 3 -> same(where + " used(" + isBanner + ", " + number + ")", () -> model.used(isBanner, number),
                () -> real.used(isBanner, number));
            case 4, 5 -> same(where + " seam(" + b + ", " + seam + ")", () -> model.seam(b, seam),
                () -> real.seam(b, seam));
            case 6 -> same(where + " meanError(" + b + ")", () -> model.meanError(b), () -> real.meanError(b));
            default -> same(where + " ink(" + b + ", " + row + ", " + column + ")", () -> model.ink(b, row, column),
                () -> real.ink(b, row, column));
        }
    }
}
