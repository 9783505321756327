import java.util.Random;
import java.util.TreeSet;

/** Guesses, their errors, and what is told of several tables: promises 21 to 25. */
final class GuessBoundaries extends Boundaries {
    private static final int[] STEPS = {2, 2, 1, 1};

    GuessBoundaries(Sentences sentences) {
        super(sentences);
    }

    @Override
    void all() {
        steps();
        ends();
        errors();
        lastNumber();
        guess();
        error();
        spread();
        best();
        needed();
        neededError();
        neededAnswers();
    }

    /** What a guess is found to be, from the kinds and the entries that are told. */
    private static final class Found {
        private int column = 0;
        private double error = NAN;
        private double value = NAN;

        Found(LimitTables x, int row, int table, int step) {
            if (x.count(row) > 0) {
                value = x.number(row, x.count(row) - 1);
            }
            for (int c = step; c <= 15; c += step) {
                double end = end(x, row, table, c);
                double before = end(x, row, table, c - step);
                double size = Math.abs(end - before);
                if (!Double.isNaN(size) && !(size >= error)) {
                    column = c;
                    error = size;
                    value = end;
                }
            }
        }

        /** The end of a column; a NaN without one. */
        private static double end(LimitTables x, int row, int table, int column) {
            int n = x.count(row) - (table == 2 ? 2 * column : column) - 1;
            while (n >= 0 && Double.isNaN(x.entry(row, table, column, n))) {
                n--;
            }
            return x.entry(row, table, column, n);
        }
    }

    /** A row for a seed: of several lengths, in some with equal numbers or steps. */
    private static LimitTables drawn(int seed) {
        Random random = new Random(seed * 0x9E3779B97F4A7C15L);
        LimitTables x = new LimitTables();
        int many = 1 + random.nextInt(16);
        int rough = 1 + random.nextInt(4);
        double total = 0.0;
        for (int i = 0; i < many; i++) {
            double draw = rough == 1 ? random.nextDouble() : random.nextInt(2 * rough) - rough;
            total = rough < 4 ? draw : total + draw * Math.scalb(1.0, -i);
            x.add(0, bits(total));
        }
        x.bridge(random.nextInt(3) == 0);
        x.setting(1, bits(1.5 + random.nextInt(3)));
        return x;
    }

    private void dueFound(LimitTables x, int table) {
        Found found = new Found(x, 0, table, STEPS[table]);
        String of = " of the table " + table;
        dueD("the guess" + of, x.guess(0, table), found.value);
        dueD("the error" + of, x.error(0, table), found.error);
        due("the column" + of, x.table(0, table, 4), found.column == 0 ? LimitTables.NONE : found.column);
    }

    private void steps() {
        term("GUESSES", "20 to 22", "The step of the tables 0 and 1 is 2, that of 2 and 3 is 1.", () -> {
            int[] first = {3, 3, 3, 2};
            for (int table = 0; table <= 3; table++) {
                int none = first[table] - 1;
                LimitTables x = new LimitTables();
                x.fill(0, 0, none);
                dueD("the table " + table + " of " + none + " numbers", x.error(0, table), NAN);
                x.fill(0, 0, none + 1);
                due("the table " + table + " of one more", x.table(0, table, 4), STEPS[table]);
            }
            LimitTables x = with(3.0, 0.5, -0.25, 1.0);
            double odd = Math.abs(x.entry(0, 0, 1, 2) - 1.0);
            double even = Math.abs(x.entry(0, 0, 2, 1) - 1.0);
            dueText("a column between is nearer", String.valueOf(odd < even), "true");
            dueD("but is no guess", x.error(0, 0), even);
        });
        term("GUESSES", "20 to 22", "The guess of a table is found among the columns c that are step, 2 * step, and so on,",
                () -> {
            int[] last = {14, 14, 7, 15};
            for (int table = 0; table <= 3; table++) {
                TreeSet<Integer> columns = new TreeSet<>();
                TreeSet<Integer> wanted = new TreeSet<>();
                for (int seed = 0; seed < 4000; seed++) {
                    LimitTables x = drawn(seed);
                    dueFound(x, table);
                    columns.add(x.table(0, table, 4));
                }
                wanted.add(LimitTables.NONE);
                for (int c = STEPS[table]; c <= last[table]; c += STEPS[table]) {
                    wanted.add(c);
                }
                dueText("the columns of the table " + table, columns.toString(), wanted.toString());
            }
        });
    }

    private void ends() {
        term("GUESSES", "21, 22", "The end of a column is its entry that is not broken with the greatest place.", () -> {
            LimitTables x = with(1.0, 3.0, 4.0, 5.0, 6.0);
            due("the last one is broken", x.kind(0, 2, 1, 2), 2);
            due("the one ahead is broken", x.kind(0, 2, 1, 1), 2);
            dueD("the end is the first one", x.guess(0, 2), 5.0);
            dueD("its error", x.error(0, 2), 1.0);
            x = with(1.0, 2.0, 3.0, 5.0, 9.5);
            due("the first one is broken", x.kind(0, 2, 1, 0), 2);
            dueD("the end is the last one", x.guess(0, 2), 3.0 - 4.0 / 2.5);
            x = with(1.0, 3.0, 4.0, 5.0, 6.0);
            x.bridge(true);
            due("the last one is bridged", x.kind(0, 2, 1, 2), 1);
            dueD("a bridged one is an end", x.error(0, 2), 4.0 - (5.0 - 4.0 / 3.0));
            x = with(1.0, 2.0, 4.0, 4.0);
            dueD("of the table 0, one ahead of the last", x.guess(0, 0), 2.0 + 1.0 / (0.5 - 1.0));
            dueD("and its error", x.error(0, 0), 4.0);
        });
        term("GUESSES", "20 to 22", "that have an end, and whose column c - step has one, too:", () -> {
            LimitTables x = with(1.0, 2.0, 3.0);
            due("a column without an end", x.kind(0, 0, 2, 0), 2);
            due("is not the guess", x.table(0, 0, 4), LimitTables.NONE);
            x = with(1.0, 3.0, 4.0);
            x.setting(0, bits(1.0));
            due("no column with an end", x.table(0, 3, 4), LimitTables.NONE);
            dueD("no error", x.error(0, 3), NAN);
            x.setting(1, bits(1.5));
            due("a column 2 above the guard, made of broken ones", x.table(0, 3, 4), LimitTables.NONE);
            x = with(1.0, 2.0, 4.0, 4.0, 4.0);
            due("a column 2 with an end, a column 4 without one", x.table(0, 0, 4), 2);
        });
    }

    private void errors() {
        term("GUESSES", "22", "its error is the size of the difference of both ends", () -> {
            dueD("the end is greater", with(1.0, 3.0).error(0, 3), 2.0);
            dueD("the end is less", with(3.0, 1.0).error(0, 3), 2.0);
            dueD("no difference", with(3.0, 3.0).error(0, 3), 0.0);
            LimitTables x = with(1.0, 2.0, 4.0);
            dueD("two columns apart in the table 0", x.error(0, 0), 4.0);
            dueD("two columns apart in the table 1", x.error(0, 1), 6.0);
        });
        term("GUESSES", "22 to 25", "(it may be infinite);", () -> {
            double great = Double.MAX_VALUE;
            LimitTables x = Planted.with(great, 0.0, -great);
            x.bridge(true);
            dueD("the error", x.error(0, 2), INFINITE);
            dueD("the guess", x.guess(0, 2), great);
            due("the column", x.table(0, 2, 4), 1);
            due("needed for any", x.needed(0, 2, bits(INFINITE)), 3);
            due("needed for less", x.needed(0, 2, bits(great)), LimitTables.NONE);
        });
        term("GUESSES", "20 to 22", "the guess is the end of the column with the least error,", () -> {
            LimitTables x = with(1.0, 2.0, 2.0, 6.0, 7.0);
            dueFound(x, 3);
            due("a later column", x.table(0, 3, 4), 4);
            x = with(1.0, 1.0, 1.625, 1.75);
            due("an earlier column", x.table(0, 3, 4), 1);
            dueD("its end", x.guess(0, 3), 1.875);
            dueD("its error", x.error(0, 3), 0.125);
            for (int seed = 5000; seed < 6000; seed++) {
                dueFound(drawn(seed), seed % 4);
            }
        });
        term("GUESSES", "20 to 22", "of several the lowest column.", () -> {
            LimitTables x = with(1.0, 1.5, 1.75, 1.875);
            due("of 2 and 3", x.table(0, 3, 4), 2);
            x = with(4.0, 4.0, 4.0, 4.0, 4.0, 4.0);
            due("of all in the table 3", x.table(0, 3, 4), 1);
            x.bridge(true);
            due("of all in the table 0", x.table(0, 0, 4), 2);
            due("of all in the table 1", x.table(0, 1, 4), 2);
            due("of all in the table 2", x.table(0, 2, 4), 1);
        });
    }

    private void lastNumber() {
        term("GUESSES", "21, 22", "If there is none, the guess is the last number of the row, without an error.", () -> {
            for (int table = 0; table <= 3; table++) {
                dueD("of one number", with(-0.0).guess(0, table), -0.0);
                dueD("its error", with(-0.0).error(0, table), NAN);
                if (table < 3) {
                    dueD("of two", with(7.0, 9.0).guess(0, table), 9.0);
                    dueD("the error of two", with(7.0, 9.0).error(0, table), NAN);
                    dueD("of equal ones", with(5.0, 5.0, 5.0).guess(0, table), 5.0);
                    dueD("the error of equal ones", with(5.0, 5.0, 5.0).error(0, table), NAN);
                    dueD("of equal steps", with(5.0, 6.0, 7.0).guess(0, table), 7.0);
                }
            }
        });
    }

    private void guess() {
        promise(21, "`row`: 0 or 1", () -> {
            LimitTables x = both(new double[] {1.0, 3.0}, 2.0);
            dueD("of 0", x.guess(0, 3), 5.0);
            dueD("of 1", x.guess(1, 3), 2.0);
        });
        promise(21, "`table`: 0 to 3", () -> {
            double[] wanted = {3.0 + 1.0 / 0.5, 3.0 + 2.0 / 0.5, 5.0, 5.0};
            for (int table = 0; table <= 3; table++) {
                dueD("the table " + table, with(1.0, 3.0, 4.0).guess(0, table), wanted[table]);
            }
        });
        promise(21, "Returns the guess;", () -> {
            for (int seed = 0; seed < 400; seed++) {
                LimitTables x = drawn(seed);
                dueD("of a drawn row", x.guess(0, seed % 4), new Found(x, 0, seed % 4, STEPS[seed % 4]).value);
            }
        });
        promise(21, "a NaN if there is no such row or table, or the row is empty.", () -> {
            for (int row : NO_ROWS) {
                nothing("of the row " + row, Boundaries::lived, x -> x.guess(row, 0), NAN);
            }
            for (int table : NO_TABLES) {
                nothing("of the table " + table, Boundaries::lived, x -> x.guess(0, table), NAN);
            }
            for (int table = 0; table <= 3; table++) {
                dueD("of an empty row", new LimitTables().guess(0, table), NAN);
                dueD("of an empty row beside one", full().guess(1, table), NAN);
                LimitTables x = with(1.0, 2.0);
                x.guess(0, table);
                x.cut(0, 2);
                dueD("of a row that was emptied", x.guess(0, table), NAN);
            }
        });
    }

    private void error() {
        promise(22, "`row`: 0 or 1", () -> {
            LimitTables x = both(new double[] {1.0, 3.0}, 2.0, 3.0);
            dueD("of 0", x.error(0, 3), 2.0);
            dueD("of 1", x.error(1, 3), 1.0);
        });
        promise(22, "`table`: 0 to 3", () -> {
            double[] wanted = {1.0, 3.0, 1.0, 0.0};
            for (int table = 0; table <= 3; table++) {
                dueD("the table " + table, with(1.0, 3.0, 4.0).error(0, table), wanted[table]);
            }
        });
        promise(22, "Returns the error of the guess;", () -> {
            for (int seed = 0; seed < 400; seed++) {
                LimitTables x = drawn(seed);
                dueD("of a drawn row", x.error(0, seed % 4), new Found(x, 0, seed % 4, STEPS[seed % 4]).error);
            }
        });
        promise(22, "a NaN if there is no such row or table, or the guess has none.", () -> {
            for (int row : NO_ROWS) {
                nothing("of the row " + row, Boundaries::lived, x -> x.error(row, 0), NAN);
            }
            for (int table : NO_TABLES) {
                nothing("of the table " + table, Boundaries::lived, x -> x.error(0, table), NAN);
            }
            for (int table = 0; table <= 3; table++) {
                dueD("of an empty row", new LimitTables().error(0, table), NAN);
                dueD("of one number", with(1.0).error(0, table), NAN);
                LimitTables x = with(1.0, 2.0, 4.0);
                x.error(0, table);
                x.cut(0, 2);
                dueD("of a row that was cut to one", x.error(0, table), NAN);
            }
        });
    }

    private void spread() {
        promise(23, "Tells how far the guesses of the four tables of a row are apart: the greatest one less the least one.",
                () -> {
            TreeSet<Integer> least = new TreeSet<>();
            TreeSet<Integer> greatest = new TreeSet<>();
            for (int seed = 0; seed < 400; seed++) {
                LimitTables x = drawn(seed);
                int low = 0;
                int high = 0;
                for (int table = 1; table <= 3; table++) {
                    low = x.guess(0, table) < x.guess(0, low) ? table : low;
                    high = x.guess(0, table) > x.guess(0, high) ? table : high;
                }
                least.add(low);
                greatest.add(high);
                dueD("of a drawn row", x.spread(0), x.guess(0, high) - x.guess(0, low));
            }
            dueText("each table has the least one", least.toString(), "[0, 1, 2, 3]");
            dueText("each table has the greatest one", greatest.toString(), "[0, 1, 2, 3]");
        });
        promise(23, "`row`: 0 or 1", () -> {
            LimitTables x = both(new double[] {1.0, 3.0}, 2.0, 3.0);
            dueD("of 0", x.spread(0), 2.0);
            dueD("of 1", x.spread(1), 1.0);
        });
        promise(23, "Returns the difference;", () -> {
            dueD("of one number", with(4.0).spread(0), 0.0);
            dueD("of one zero", with(-0.0).spread(0), 0.0);
            dueD("of two", with(4.0, 5.0).spread(0), 1.0);
            dueD("of two that fall", with(5.0, 4.0).spread(0), 1.0);
            dueD("of far ones", with(-1.0E9, 1.0E9).spread(0), 2.0E9);
            dueD("below 0.0", with(-4.0, -5.0).spread(0), 1.0);
            dueD("of -0.0 and, at last, 0.0", with(-0.0, -0.0).spread(0), 0.0);
            LimitTables x = with(0.0, 0.0, -0.0);
            x.bridge(true);
            dueD("of 0.0 and, at last, -0.0", x.spread(0), 0.0);
        });
        promise(23, "a NaN if there is no such row, or it is empty.", () -> {
            for (int row : NO_ROWS) {
                nothing("of the row " + row, Boundaries::lived, x -> x.spread(row), NAN);
            }
            dueD("of an empty row", new LimitTables().spread(0), NAN);
            dueD("of an empty row beside one", full().spread(1), NAN);
            dueD("not of the one beside it", new LimitTables().fill(0, 0, 1) * with(2.0).spread(0), 0.0);
        });
    }

    private void best() {
        promise(24, "`row`: 0 or 1", () -> {
            LimitTables x = both(new double[] {1.0, 3.0}, 2.0);
            due("of 0", x.best(0), 3);
            due("of 1", x.best(1), LimitTables.NONE);
        });
        promise(24, "Returns the table whose guess has the least error,", () -> {
            TreeSet<Integer> tables = new TreeSet<>();
            for (int seed = 0; seed < 2000; seed++) {
                LimitTables x = drawn(seed);
                int wanted = LimitTables.NONE;
                double least = NAN;
                for (int table = 0; table <= 3; table++) {
                    double error = x.error(0, table);
                    if (!Double.isNaN(error) && !(error >= least)) {
                        wanted = table;
                        least = error;
                    }
                }
                due("of a drawn row", x.best(0), wanted);
                tables.add(wanted);
            }
            dueText("each table is the best of some", tables.toString(), "[-5, 0, 1, 2, 3]");
        });
        promise(24, "of several the lowest one;", () -> {
            TreeSet<String> several = new TreeSet<>();
            for (int seed = 0; seed < 2000; seed++) {
                LimitTables x = drawn(seed);
                int best = x.best(0);
                for (int other = 0; other <= 3 && best >= 0; other++) {
                    if (other != best && x.error(0, other) == x.error(0, best)) {
                        due("of " + other + " and the best", Math.min(best, other), best);
                        several.add(best + "" + other);
                    }
                }
            }
            dueText("pairs with equal errors", several.toString(), "[01, 02, 03, 12, 13, 23]");
            LimitTables x = with(3.0, 3.0, 3.0);
            x.bridge(true);
            due("of all four", x.best(0), 0);
        });
        promise(24, "UNKNOWN;", () -> {
            for (int row : NO_ROWS) {
                nothing("of the row " + row, Boundaries::lived, x -> x.best(row), LimitTables.UNKNOWN);
            }
        });
        promise(24, "NONE if none has an error.", () -> {
            due("of an empty row", new LimitTables().best(0), LimitTables.NONE);
            due("of one number", with(1.0).best(0), LimitTables.NONE);
            due("of two numbers", with(1.0, 2.0).best(0), 3);
            LimitTables x = with(1.0, 1.0, 1.0);
            x.setting(0, bits(1.0));
            due("of broken tables", x.best(0), LimitTables.NONE);
        });
    }

    private void needed() {
        promise(25, "Tells how many numbers a row would need: the least length with which the guess of a table, of the row cut "
                + "to that, has an error that is at most as told.", () -> {
            TreeSet<Integer> lengths = new TreeSet<>();
            for (int seed = 0; seed < 600; seed++) {
                int table = seed % 4;
                double[] errors = errorsOfCuts(drawn(seed), table);
                for (int length = 1; length < errors.length; length++) {
                    for (double most : new double[] {errors[length], Math.nextDown(errors[length])}) {
                        if (most >= 0.0) {
                            int wanted = firstAtMost(errors, most);
                            due("of a drawn row", drawn(seed).needed(0, table, bits(most)), wanted);
                            lengths.add(wanted);
                        }
                    }
                }
            }
            dueText("the lengths", lengths.toString(), "[-5, 2, 3, 4, 5, 6, 7, 8, 9, 10, 11, 12, 13, 14, 15, 16]");
        });
        promise(25, "`row`: 0 or 1", () -> {
            LimitTables x = both(new double[] {1.0, 3.0}, 2.0, 3.0);
            due("of 0", x.needed(0, 3, bits(1.0)), LimitTables.NONE);
            due("of 1", x.needed(1, 3, bits(1.0)), 2);
        });
        promise(25, "`table`: 0 to 3", () -> {
            int[] wanted = {3, LimitTables.NONE, 3, 3};
            for (int table = 0; table <= 3; table++) {
                due("the table " + table, with(1.0, 3.0, 4.0).needed(0, table, bits(1.0)), wanted[table]);
            }
        });
    }

    /** The errors of a row of an object cut to each length; a NaN where there is none. */
    private static double[] errorsOfCuts(LimitTables x, int table) {
        double[] errors = new double[x.count(0) + 1];
        errors[0] = NAN;
        for (int length = x.count(0); length >= 1; length--) {
            errors[length] = x.error(0, table);
            x.cut(0, 1);
        }
        return errors;
    }

    private static int firstAtMost(double[] errors, double most) {
        for (int length = 0; length < errors.length; length++) {
            if (errors[length] <= most) {
                return length;
            }
        }
        return LimitTables.NONE;
    }

    private void neededError() {
        promise(25, "`bits`: the error, not below 0.0 (-0.0 counts as 0.0; it may be infinite)", () -> {
            LimitTables x = with(2.0, 2.0, 5.0);
            due("0.0", x.needed(0, 3, 0L), 2);
            due("-0.0", x.needed(0, 3, MINUS_ZERO), 2);
            due("-0.0 for one that is not", with(1.0, 2.0).needed(0, 3, MINUS_ZERO), LimitTables.NONE);
            due("the least above 0.0", x.needed(0, 3, 1L), 2);
            due("infinite", x.needed(0, 0, bits(INFINITE)), LimitTables.NONE);
            due("infinite, of any error", with(1.0, 2.0, 4.0).needed(0, 0, bits(INFINITE)), 3);
            due("the greatest", with(1.0, 2.0, 4.0).needed(0, 0, bits(Double.MAX_VALUE)), 3);
            due("the least below 0.0", x.needed(0, 3, bits(-4.9E-324)), LimitTables.BAD_VALUE);
        });
        promise(25, "BAD_VALUE (also for a NaN);", () -> {
            long[] bad = {bits(NAN), 0x7FF0000000000001L, 0xFFF0000000000001L, 0x7FFFFFFFFFFFFFFFL, -1L,
                bits(-4.9E-324), bits(-1.0), bits(-INFINITE), bits(-Double.MAX_VALUE)};
            for (long bits : bad) {
                nothing("needed for the bits " + bits, Boundaries::lived, x -> x.needed(0, 3, bits),
                        LimitTables.BAD_VALUE);
                due("of an empty row", new LimitTables().needed(0, 3, bits), LimitTables.BAD_VALUE);
            }
        });
    }

    private void neededAnswers() {
        promise(25, "Returns the length;", () -> {
            LimitTables x = with(4.0, 8.0, 10.0, 11.0, 11.0);
            double[] errors = errorsOfCuts(with(4.0, 8.0, 10.0, 11.0, 11.0), 3);
            due("at once", x.needed(0, 3, bits(errors[2])), 2);
            due("a bit less", x.needed(0, 3, bits(Math.nextDown(errors[2]))), 3);
            due("it is of the row as it is", x.count(0), 5);
        });
        promise(25, "UNKNOWN (row or table);", () -> {
            for (int row : NO_ROWS) {
                nothing("of the row " + row, Boundaries::lived, x -> x.needed(row, 0, 0L), LimitTables.UNKNOWN);
            }
            for (int table : NO_TABLES) {
                nothing("of the table " + table, Boundaries::lived, x -> x.needed(0, table, 0L), LimitTables.UNKNOWN);
            }
        });
        promise(25, "NONE if there is none.", () -> {
            for (int table = 0; table <= 3; table++) {
                due("of an empty row", new LimitTables().needed(0, table, bits(INFINITE)), LimitTables.NONE);
                due("of one number", with(1.0).needed(0, table, bits(INFINITE)), LimitTables.NONE);
                due("of a row with errors above 0.0", with(1.0, 2.0, 4.0, 7.0).needed(0, table, 0L),
                        LimitTables.NONE);
            }
            due("of broken columns", with(1.0, 1.0, 1.0).needed(0, 0, bits(INFINITE)), LimitTables.NONE);
        });
    }
}
