/** Rows that are filled by series and made of columns: promises 6 and 9. */
final class SeriesBoundaries extends Boundaries {
    SeriesBoundaries(Sentences sentences) {
        super(sentences);
    }

    @Override
    void all() {
        sums();
        series();
        powers();
        fill();
        fillAnswers();
        take();
        takeAnswers();
        takeEntries();
    }

    private static LimitTables filled(int series, int many, double factor) {
        LimitTables x = new LimitTables();
        x.setting(2, bits(factor));
        x.fill(0, series, many);
        return x;
    }

    private void sums() {
        term("SERIES", "6", "A row can be filled with the sums of so many first terms of a series, each one with one term "
                + "more", () -> {
            LimitTables one = filled(0, 1, 0.5);
            dueRow("one sum", one, 0, 1.0);
            for (int series = 0; series <= 4; series++) {
                LimitTables few = filled(series, 3, 0.25);
                LimitTables all = filled(series, 16, 0.25);
                due("sixteen sums of " + series, all.count(0), 16);
                dueRow("three sums of " + series, few, 0, all.number(0, 0), all.number(0, 1), all.number(0, 2));
            }
        });
        term("SERIES", "6", "(from the term 1 on, added to 0.0 one behind the other):", () -> {
            double total = 0.0;
            double backward = 0.0;
            LimitTables x = filled(0, 9, 0.5);
            for (int k = 1; k <= 9; k++) {
                total = total + 1.0 / (k * k);
                backward = backward + 1.0 / ((10 - k) * (10 - k));
                dueD("sum " + k, x.number(0, k - 1), total);
            }
            differ("the last sum", total, backward);
        });
        term("SERIES", "6", "(Where the sign is -, the term is subtracted.)", () -> {
            dueRow("series 1", filled(1, 3, 0.5), 0, 1.0, 1.0 - 0.5, 1.0 - 0.5 + 1.0 / 3.0);
            dueRow("series 2", filled(2, 3, 0.5), 0, 1.0, 1.0 - 1.0 / 3.0, 1.0 - 1.0 / 3.0 + 0.2);
        });
    }

    private void series() {
        term("SERIES", "6", "0: 1 / (k * k) for the term k;", () -> {
            dueRow("the first ones", filled(0, 3, 0.5), 0, 1.0, 1.25, 1.25 + 1.0 / 9.0);
            double total = 0.0;
            for (int k = 1; k <= 16; k++) {
                total = total + 1.0 / (k * k);
                dueD("sum " + k, filled(0, 16, 0.5).number(0, k - 1), total);
            }
        });
        term("SERIES", "6", "1: 1 / k with the sign - for each even k;", () -> {
            LimitTables x = filled(1, 16, 0.5);
            double total = 0.0;
            for (int k = 1; k <= 16; k++) {
                total = k % 2 == 0 ? total - 1.0 / k : total + 1.0 / k;
                dueD("sum " + k, x.number(0, k - 1), total);
            }
        });
        term("SERIES", "6", "2: 1 / (2 * k - 1) with the sign - for each even k;", () -> {
            LimitTables x = filled(2, 16, 0.5);
            double total = 0.0;
            for (int k = 1; k <= 16; k++) {
                total = k % 2 == 0 ? total - 1.0 / (2 * k - 1) : total + 1.0 / (2 * k - 1);
                dueD("sum " + k, x.number(0, k - 1), total);
            }
        });
    }

    private void powers() {
        term("SERIES", "6", "3: the factor to the power k - 1, made by multiplying 1.0 with the factor k - 1 times;", () -> {
            dueRow("a factor of 0.0", filled(3, 3, 0.0), 0, 1.0, 1.0, 1.0);
            dueRow("a factor below 0.0", filled(3, 3, -0.5), 0, 1.0, 0.5, 0.75);
            for (double factor : new double[] {0.95, -0.95, 0.7, 0.1, 0.3, 4.9E-324}) {
                LimitTables x = filled(3, 16, factor);
                double total = 0.0;
                double power = 1.0;
                for (int k = 1; k <= 16; k++) {
                    total = total + power;
                    dueD("sum " + k + " of " + factor, x.number(0, k - 1), total);
                    power = power * factor;
                }
            }
            differ("0.7 to the power 4", 0.7 * 0.7 * 0.7 * 0.7, Math.pow(0.7, 4.0));
        });
        term("SERIES", "6", "4: the term k of 3, divided by k.", () -> {
            dueRow("a factor of 0.0", filled(4, 3, 0.0), 0, 1.0, 1.0, 1.0);
            for (double factor : new double[] {0.95, -0.95, 0.7, 0.1, 0.5}) {
                LimitTables x = filled(4, 16, factor);
                double total = 0.0;
                double power = 1.0;
                for (int k = 1; k <= 16; k++) {
                    total = total + power / k;
                    dueD("sum " + k + " of " + factor, x.number(0, k - 1), total);
                    power = power * factor;
                }
            }
            differ("a third", 0.95 * 0.95 / 3, 0.95 * 0.95 * (1.0 / 3));
        });
    }

    private void fill() {
        promise(6, "Fills a row with sums of a series, in place of what it had.", () -> {
            LimitTables x = full();
            addAll(x, 1, 8.0);
            x.fill(0, 3, 2);
            dueRow("fewer than it had", x, 0, 1.0, 1.5);
            x.fill(0, 3, 4);
            dueRow("more than it had", x, 0, 1.0, 1.5, 1.75, 1.875);
            dueRow("the other row", x, 1, 8.0);
            due("of a full row", full().fill(0, 1, 16), 16);
        });
        promise(6, "This is an act.", () -> {
            act("fill(0, 0, 2)", () -> with(5.0), x -> x.fill(0, 0, 2), 2);
            act("fill(0, 0, 1) that leaves all as it was", () -> with(1.0), x -> x.fill(0, 0, 1), 1);
        });
        promise(6, "`row`: 0 or 1", () -> {
            LimitTables x = new LimitTables();
            due("0", x.fill(0, 0, 1), 1);
            due("1", x.fill(1, 0, 2), 2);
            due("numbers of 0", x.count(0), 1);
            due("numbers of 1", x.count(1), 2);
        });
        promise(6, "`series`: 0 to 4", () -> {
            double[] second = {1.25, 0.5, 1.0 - 1.0 / 3.0, 1.5, 1.25};
            for (int series = 0; series <= 4; series++) {
                due("the series " + series, new LimitTables().fill(0, series, 2), 2);
                dueD("its second sum", filled(series, 2, 0.5).number(0, 1), second[series]);
            }
            due("the series -1", new LimitTables().fill(0, -1, 2), LimitTables.BAD_VALUE);
            due("the series 5", new LimitTables().fill(0, 5, 2), LimitTables.BAD_VALUE);
        });
        promise(6, "`many`: 1 to 16: how many sums", () -> {
            due("1", new LimitTables().fill(0, 0, 1), 1);
            due("16", new LimitTables().fill(0, 0, 16), 16);
            due("0", new LimitTables().fill(0, 0, 0), LimitTables.BAD_VALUE);
            due("17", new LimitTables().fill(0, 0, 17), LimitTables.BAD_VALUE);
        });
    }

    private void fillAnswers() {
        promise(6, "Returns many;", () -> {
            for (int many = 1; many <= 16; many++) {
                LimitTables x = new LimitTables();
                due("fill(1, 2, " + many + ")", x.fill(1, 2, many), many);
                due("numbers then", x.count(1), many);
            }
        });
        promise(6, "UNKNOWN;", () -> {
            for (int row : NO_ROWS) {
                nothing("fill of " + row, Boundaries::lived, x -> x.fill(row, 0, 1), LimitTables.UNKNOWN);
            }
        });
        promise(6, "BAD_VALUE (series or many).", () -> {
            for (int series : new int[] {-1, 5, LEAST, MOST}) {
                nothing("the series " + series, Boundaries::lived, x -> x.fill(0, series, 1), LimitTables.BAD_VALUE);
            }
            for (int many : new int[] {0, -1, 17, LEAST, MOST}) {
                nothing("many " + many, Boundaries::lived, x -> x.fill(0, 0, many), LimitTables.BAD_VALUE);
            }
        });
    }

    private void take() {
        promise(9, "Makes a row the entries of a column of a table of the other row that are not broken and would not be "
                + "refused, in their order.", () -> {
            LimitTables x = with(1.0, 1.5, 1.5, 2.0, 4.0);
            addAll(x, 1, 7.0, 7.0, 7.0, 7.0, 7.0, 7.0);
            x.take(1, 0, 1);
            dueRow("without the broken one", x, 1, 2.0, 2.0, 0.5);
            dueRow("the other row stays", x, 0, 1.0, 1.5, 1.5, 2.0, 4.0);
            x.take(0, 3, 0);
            dueRow("of the row 1", x, 0, 2.0, 2.0, 0.5);
            x.bridge(true);
            x.take(1, 0, 1);
            dueRow("with the bridged one", x, 1, 0.0, 1.0 / -1.5);
        });
        promise(9, "This is an act.", () -> {
            act("take(1, 0, 0)", () -> with(1.0, 2.0), x -> x.take(1, 0, 0), 2);
            act("take(1, 0, 0) that leaves all as it was", () -> both(new double[] {5.0}, 5.0),
                    x -> x.take(1, 0, 0), 1);
        });
        promise(9, "`row`: 0 or 1: the row that is made", () -> {
            LimitTables x = both(new double[] {1.0, 2.0}, 3.0);
            due("take(0, 0, 0)", x.take(0, 0, 0), 1);
            dueRow("the row 0", x, 0, 3.0);
            dueRow("the row 1", x, 1, 3.0);
            x = both(new double[] {1.0, 2.0}, 3.0);
            due("take(1, 0, 0)", x.take(1, 0, 0), 2);
            dueRow("the row 0 then", x, 0, 1.0, 2.0);
            dueRow("the row 1 then", x, 1, 1.0, 2.0);
        });
        promise(9, "`table`: 0 to 3", () -> {
            double[] first = {1.0, 0.5 + 1.0 / (4.0 - 1.0), 0.0 - 1.0 / (0.25 - 1.0), 1.0 + 1.0};
            double[] numbers = {0.0, 1.0, 1.25, 3.0};
            for (int table = 0; table <= 3; table++) {
                LimitTables x = with(numbers);
                due("take(1, " + table + ", 1)", x.take(1, table, 1), table == 2 ? 2 : 3);
                dueD("the first one", x.number(1, 0), table < 2 ? 1.0 : first[table]);
            }
            LimitTables x = with(numbers);
            x.take(1, 1, 2);
            dueD("the table 1 is not the table 0", x.number(1, 0), 1.0 + 2.0 / 3.0);
            due("the table -1", with(1.0).take(1, -1, 0), LimitTables.UNKNOWN);
            due("the table 4", with(1.0).take(1, 4, 0), LimitTables.UNKNOWN);
        });
        promise(9, "`column`: 0 to 15", () -> {
            LimitTables x = full();
            for (int column = 0; column <= 15; column++) {
                due("the column " + column + " of the table 3", x.take(1, 3, column), 16 - column);
            }
            due("the column 16", x.take(1, 3, 16), LimitTables.BAD_VALUE);
            due("the column -1", x.take(1, 3, -1), LimitTables.BAD_VALUE);
        });
    }

    private void takeAnswers() {
        promise(9, "Returns how many numbers it has then;", () -> {
            LimitTables x = full();
            for (int column = 0; column <= 7; column++) {
                int many = x.take(1, 2, column);
                due("the column " + column + " of the table 2", many, x.count(1));
            }
            due("the column 0", x.take(1, 2, 0), 16);
        });
        promise(9, "UNKNOWN (row or table);", () -> {
            for (int row : NO_ROWS) {
                nothing("take into " + row, Boundaries::lived, x -> x.take(row, 0, 0), LimitTables.UNKNOWN);
            }
            for (int table : NO_TABLES) {
                nothing("take of the table " + table, Boundaries::lived, x -> x.take(0, table, 0), LimitTables.UNKNOWN);
            }
        });
        promise(9, "BAD_VALUE;", () -> {
            for (int column : new int[] {-1, 16, 17, LEAST, MOST, 1 << 30, 1 << 28}) {
                for (int table = 0; table <= 3; table++) {
                    int of = table;
                    nothing("the column " + column, Boundaries::lived, x -> x.take(0, of, column),
                            LimitTables.BAD_VALUE);
                }
            }
        });
        promise(9, "NOT_POSSIBLE if there would be none.", () -> {
            nothing("of an empty row", Boundaries::full, x -> x.take(0, 0, 0), LimitTables.NOT_POSSIBLE);
            for (int table = 0; table <= 3; table++) {
                int of = table;
                int columns = table == 2 ? 8 : 16;
                nothing("of one number, the column 1", () -> with(1.0), x -> x.take(1, of, 1),
                        LimitTables.NOT_POSSIBLE);
                nothing("of five, behind the last column", () -> with(1.0, 2.0, 4.0, 9.0, 7.0),
                        x -> x.take(1, of, of == 2 ? 3 : 5), LimitTables.NOT_POSSIBLE);
                due("the last column of sixteen", full().take(1, 3, 15), 1);
                if (columns == 8) {
                    nothing("the column 8 of the table 2", Boundaries::full, x -> x.take(1, 2, 8),
                            LimitTables.NOT_POSSIBLE);
                    nothing("the column 15 of the table 2", Boundaries::full, x -> x.take(1, 2, 15),
                            LimitTables.NOT_POSSIBLE);
                }
            }
            nothing("all broken", () -> with(1.0, 1.0, 1.0), x -> x.take(1, 0, 1), LimitTables.NOT_POSSIBLE);
            nothing("all refused", () -> with(0.0, 9.0E-10, 18.5E-10), x -> x.take(1, 0, 1), LimitTables.NOT_POSSIBLE);
        });
    }

    private void takeEntries() {
        promise(9, "that are not broken and would not be refused,", () -> {
            LimitTables x = with(0.0, 5.0E8);
            due("an entry of 1.0E9", x.take(1, 3, 1), 1);
            dueRow("the row 1", x, 1, 1.0E9);
            x = with(0.0, -5.0E8);
            due("an entry of -1.0E9", x.take(1, 3, 1), 1);
            x = with(0.0, Math.nextUp(5.0E8));
            due("an entry a bit greater", x.take(1, 3, 1), LimitTables.NOT_POSSIBLE);
            x = with(0.0, Math.nextDown(-5.0E8), 1.0);
            due("one a bit below and one fine", x.take(1, 3, 1), 1);
            dueRow("the fine one", x, 1, 1.0 + (1.0 - Math.nextDown(-5.0E8)));
            x = with(0.0, 4.9E-324, 1.0);
            x.setting(0, 0L);
            x.bridge(true);
            due("one that is not finite", x.take(1, 0, 1), 1);
            dueRow("the other one", x, 1, 1.0);
        });
    }
}
