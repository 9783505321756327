import java.util.Random;

/** Long runs of drawn calls, each answered by the class and by the model. The seeds are fixed. */
final class ModelRuns {
    private static final int RUNS = 10000;
    private static final int CALLS = 512;
    /** More calls than one step of a run makes. */
    private static final int STEP = 64;
    private static final long MINUS_ZERO = Long.MIN_VALUE;
    private static final double[] PLAIN = {
        0.0, -0.0, 1.0, -1.0, 2.0, 3.0, 0.5, 0.25, 7.5, 1.0E9, -1.0E9, 999999999.5, 1.0E-10, 2.0E-10,
        1.0E-300, -1.0E-300, 3.0E-308, 4.9E-324, -4.9E-324, 2.2250738585072014E-308, 1.0E-155, 100.0};
    private static final double[] REFUSED = {
        Double.NaN, Double.POSITIVE_INFINITY, Double.NEGATIVE_INFINITY, 1.0000000000000001E9 + 1.0E-6,
        Math.nextUp(1.0E9), Math.nextDown(-1.0E9), 1.0E300, Double.MAX_VALUE};
    private static final double[][] SETTINGS = {
        {0.0, 1.0, 1.0E-10, 0.5, 1.25, Math.nextUp(1.0), -0.0, -4.9E-324, Double.NaN, 1.0E-3, 4.9E-324},
        {1.5, 10.0, 2.0, 3.0, Math.nextDown(1.5), Math.nextUp(10.0), Double.NaN, 4.0, 1.4142, -2.0},
        {0.5, -0.95, 0.95, 0.0, -0.0, Math.nextUp(0.95), Math.nextDown(-0.95), -0.5, Double.NaN, 1.0}};
    private static final double[] ERRORS = {
        0.0, -0.0, 1.0E-12, 1.0E-6, 1.0E-3, 1.0, 10.0, Double.POSITIVE_INFINITY, Double.NEGATIVE_INFINITY,
        Double.NaN, -1.0, -4.9E-324, 1.0E300};

    private final Checks checks;
    private final Random random;
    private final int run;
    private final LimitTables real = new LimitTables();
    private final Model model = new Model();
    private int call = 0;

    private ModelRuns(Checks checks, int run) {
        this.checks = checks;
        this.run = run;
        this.random = new Random(1000L + run);
    }

    public static void main(String[] args) {
        Checks checks = new Checks();
        for (int run = 0; run < RUNS && !checks.anyFailed(); run++) {
            new ModelRuns(checks, run).go();
        }
        checks.end("ModelRuns");
    }

    private void go() {
        while (call + STEP <= CALLS && !checks.anyFailed()) {
            switch (random.nextInt(8)) {
                case 0, 1 -> change();
                case 2 -> makeRow();
                case 3 -> arrange();
                case 4 -> write();
                default -> ask();
            }
        }
    }

    private void same(String what, long got, long want) {
        call++;
        checks.due("run " + run + ", call " + call + ": " + what, got, want);
    }

    private void sameD(String what, double got, double want) {
        call++;
        checks.dueD("run " + run + ", call " + call + ": " + what, got, want);
    }

    private void change() {
        int r = row();
        long bits = bits();
        if (random.nextInt(4) > 0) {
            same("add(" + r + ", " + bits + ")", real.add(r, bits), model.add(r, bits));
        } else if (random.nextInt(3) == 0) {
            int many = random.nextInt(8) == 0 ? random.nextInt(20) - 1 : random.nextInt(4);
            same("cut(" + r + ", " + many + ")", real.cut(r, many), model.cut(r, many));
        } else {
            int place = place();
            long again = random.nextInt(4) == 0 && place >= 0 && place < 16 && (r == 0 || r == 1)
                    ? Double.doubleToRawLongBits(model.number(r, place)) : bits;
            same("set(" + r + ", " + place + ", " + again + ")", real.set(r, place, again), model.set(r, place, again));
        }
    }

    private void makeRow() {
        int r = row();
        switch (random.nextInt(4)) {
            case 0 -> {
                int series = random.nextInt(7) - 1;
                int many = random.nextInt(19) - 1;
                same("fill(" + r + ", " + series + ", " + many + ")",
                        real.fill(r, series, many), model.fill(r, series, many));
            }
            case 1 -> same("sum(" + r + ")", real.sum(r), model.sum(r));
            case 2 -> same("differences(" + r + ")", real.differences(r), model.differences(r));
            default -> {
                int t = table();
                int column = column();
                same("take(" + r + ", " + t + ", " + column + ")", real.take(r, t, column), model.take(r, t, column));
            }
        }
    }

    private void arrange() {
        switch (random.nextInt(6)) {
            case 0, 1 -> {
                int what = random.nextInt(12) == 0 ? random.nextInt(9) - 4 : random.nextInt(3);
                double[] pool = SETTINGS[what >= 0 && what < 3 ? what : 0];
                long bits = Double.doubleToRawLongBits(pool[random.nextInt(pool.length)]);
                same("setting(" + what + ", " + bits + ")", real.setting(what, bits), model.setting(what, bits));
            }
            case 2 -> {
                boolean on = random.nextBoolean();
                same("bridge(" + on + ")", real.bridge(on), model.bridge(on));
            }
            case 3 -> same("undo()", real.undo(), model.undo());
            case 4 -> same("keep()", real.keep(), model.keep());
            default -> {
                if (random.nextInt(2) == 0) {
                    same("restore()", real.restore(), model.restore());
                }
            }
        }
    }

    private void write() {
        boolean numbers = random.nextInt(4) == 0;
        if (numbers && random.nextBoolean() || random.nextInt(6) == 0) {
            same("clearText()", real.clearText(), model.clearText());
        }
        String typed = numbers ? drawnNumbers() : drawnSigns();
        for (int i = 0; i < typed.length() && i < STEP - 2; i++) {
            char sign = typed.charAt(i);
            same("type((char) " + (int) sign + ")", real.type(sign), model.type(sign));
        }
        int r = row();
        same("read(" + r + ")", real.read(r), model.read(r));
    }

    private String drawnNumbers() {
        StringBuilder typed = new StringBuilder();
        int many = 1 + random.nextInt(random.nextInt(6) == 0 ? 20 : 4);
        for (int i = 0; i < many; i++) {
            boolean brief = many > 4 || random.nextBoolean();
            typed.append(random.nextInt(many) == 0 ? "-" : "").append(random.nextInt(brief ? 10 : 1000000));
            if (random.nextInt(many + 1) == 0) {
                typed.append('.').append(random.nextInt(random.nextBoolean() ? 10 : 1000000));
            }
            typed.append(i + 1 < many ? "," : "");
        }
        return typed.toString();
    }

    private String drawnSigns() {
        String signs = "0011223456789.,-..,,- +/:;e\u00e9\u0660";
        StringBuilder typed = new StringBuilder();
        int many = random.nextInt(4);
        for (int i = 0; i < many; i++) {
            typed.append(signs.charAt(random.nextInt(random.nextInt(8) == 0 ? signs.length() : 20)));
        }
        return typed.toString();
    }

    private void ask() {
        int r = row();
        int t = table();
        int what = random.nextInt(8) - 1;
        switch (random.nextInt(9)) {
            case 0 -> askEntry(r, t);
            case 1 -> {
                int place = place();
                sameD("number(" + r + ", " + place + ")", real.number(r, place), model.number(r, place));
            }
            case 2 -> same("table(" + r + ", " + t + ", " + what + ")", real.table(r, t, what), model.table(r, t, what));
            case 3 -> sameD("guess(" + r + ", " + t + ")", real.guess(r, t), model.guess(r, t));
            case 4 -> sameD("error(" + r + ", " + t + ")", real.error(r, t), model.error(r, t));
            case 5 -> sameD("spread(" + r + ")", real.spread(r), model.spread(r));
            case 6 -> same("best(" + r + ")", real.best(r), model.best(r));
            case 7 -> {
                long bits = random.nextInt(3) == 0 ? Double.doubleToRawLongBits(model.error(r, t))
                        : Double.doubleToRawLongBits(ERRORS[random.nextInt(ERRORS.length)]);
                same("needed(" + r + ", " + t + ", " + bits + ")", real.needed(r, t, bits), model.needed(r, t, bits));
            }
            default -> {
                sameD("told(" + what + ")", real.told(what), model.told(what));
                same("count(" + what + ")", real.count(what), model.count(what));
            }
        }
    }

    private void askEntry(int r, int t) {
        int column = column();
        int place = place();
        String of = "(" + r + ", " + t + ", " + column + ", " + place + ")";
        same("kind" + of, real.kind(r, t, column, place), model.kind(r, t, column, place));
        sameD("entry" + of, real.entry(r, t, column, place), model.entry(r, t, column, place));
    }

    private int row() {
        return random.nextInt(20) == 0 ? odd() : random.nextInt(2);
    }

    private int table() {
        return random.nextInt(20) == 0 ? odd() : random.nextInt(4);
    }

    private int column() {
        return random.nextInt(12) == 0 ? odd() : random.nextInt(random.nextBoolean() ? 4 : 16);
    }

    private int place() {
        return random.nextInt(12) == 0 ? odd() : random.nextInt(random.nextBoolean() ? 4 : 16);
    }

    private int odd() {
        int[] odd = {-1, 2, 3, 4, 15, 16, 17, 255, 256, Integer.MAX_VALUE, Integer.MIN_VALUE, 1 << 30, 1 << 28, -256};
        return odd[random.nextInt(odd.length)];
    }

    private long bits() {
        switch (random.nextInt(12)) {
            case 0:
                return Double.doubleToRawLongBits(REFUSED[random.nextInt(REFUSED.length)]);
            case 1:
                return random.nextLong();
            case 2:
                return random.nextBoolean() ? 0L : MINUS_ZERO;
            case 3:
                return random.nextLong() & ~(1L << 62);
            case 4, 5, 6:
                return Double.doubleToRawLongBits(PLAIN[random.nextInt(PLAIN.length)]);
            case 7, 8:
                return Double.doubleToRawLongBits((double) (random.nextInt(5) - 2));
            default:
                return Double.doubleToRawLongBits(random.nextDouble() * (random.nextBoolean() ? 1.0 : 1.0E9));
        }
    }
}
