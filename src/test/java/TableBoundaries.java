/** Tables and what is told of them: promises 18 to 20. */
final class TableBoundaries extends Boundaries {
    private static final double[] ROUGH = {0.3, 1.1, 0.7, 2.9, 3.3, 1.9, 5.7, 4.1, 8.3, 0.9, 2.3, 7.7, 6.1, 9.7, 3.7, 5.3};
    private static final int[] FAR = {-1, -2, -16, 16, 17, 31, 32, 255, 256, 1 << 28, 1 << 30, -(1 << 30), LEAST, LEAST + 1,
        MOST, MOST - 1};

    TableBoundaries(Sentences sentences) {
        super(sentences);
    }

    @Override
    void all() {
        fourTables();
        byInverse();
        ofThree();
        byRatio();
        whichAreThere();
        tooSmall();
        tooSmallInEachTable();
        brokenOrBridged();
        brokenByOthers();
        notFinite();
        entry();
        kind();
        kindAnswers();
        table();
        tableAnswers();
    }

    /** A table without broken entries, as the document makes it. */
    private static double[][] made(int table, double ratio, double... row) {
        double[][] x = new double[16][16];
        System.arraycopy(row, 0, x[0], 0, row.length);
        double q = 1.0;
        for (int c = 1; c < 16; c++) {
            q = q * ratio;
            for (int n = 0; n + (table == 2 ? 2 * c : c) < row.length; n++) {
                double step = x[c - 1][n + 1] - x[c - 1][n];
                double base = c >= 2 ? x[c - 2][n + 1] : 0.0;
                switch (table) {
                    case 0 -> x[c][n] = base + 1.0 / step;
                    case 1 -> x[c][n] = base + c / step;
                    case 2 -> x[c][n] = x[c - 1][n] - (step * step) / (x[c - 1][n + 2] - x[c - 1][n + 1] - step);
                    default -> x[c][n] = x[c - 1][n + 1] + step / (q - 1.0);
                }
            }
        }
        return x;
    }

    private void dueTable(int table, double ratio, double... row) {
        double[][] wanted = made(table, ratio, row);
        LimitTables x = with(row);
        x.setting(0, 0L);
        x.setting(1, bits(ratio));
        for (int c = 0; c < 16; c++) {
            for (int n = 0; n + (table == 2 ? 2 * c : c) < row.length; n++) {
                dueD("the table " + table + ", column " + c + ", place " + n, x.entry(0, table, c, n), wanted[c][n]);
            }
        }
    }

    private void fourTables() {
        term("TABLES", "18 to 22, 25", "A row has four tables, numbered 0 to 3.", () -> {
            LimitTables x = both(ROUGH, 1.0, 2.0, 4.0);
            for (int row = 0; row <= 1; row++) {
                for (int table = 0; table <= 3; table++) {
                    due("the table " + table, x.kind(row, table, 1, 0), 0);
                }
                for (int table : NO_TABLES) {
                    due("the table " + table, x.kind(row, table, 0, 0), LimitTables.UNKNOWN);
                }
            }
            double[] column2 = {x.entry(0, 0, 2, 0), x.entry(0, 1, 2, 0), x.entry(0, 2, 2, 0), x.entry(0, 3, 2, 0)};
            for (int table = 0; table <= 3; table++) {
                differ("the table " + table, column2[table], column2[(table + 1) % 4]);
            }
        });
        term("TABLES", "18, 19", "The column 0 of each is the row itself.", () -> {
            LimitTables x = with(-0.0, 0.0, 1.0E9, -1.0E9, 4.9E-324);
            for (int table = 0; table <= 3; table++) {
                for (int place = 0; place <= 5; place++) {
                    dueD("the table " + table + ", place " + place, x.entry(0, table, 0, place), x.number(0, place));
                    due("its kind", x.kind(0, table, 0, place), place < 5 ? 0 : LimitTables.NONE);
                }
            }
        });
    }

    private void byInverse() {
        term("TABLES", "18", "The entry of the column c at the place n is made so (with x for the table itself, and d for the "
                + "divisor): 0: d = x(c - 1, n + 1) - x(c - 1, n); the entry is x(c - 2, n + 1) + 1 / d,", () -> {
            LimitTables x = with(1.0, 1.5, 3.5, 4.0);
            dueD("column 1", x.entry(0, 0, 1, 1), 0.5);
            dueD("column 2", x.entry(0, 0, 2, 0), 1.5 + 1.0 / -1.5);
            dueD("column 2, place 1", x.entry(0, 0, 2, 1), 3.5 + 1.0 / 1.5);
            dueTable(0, 2.0, ROUGH);
        });
        term("TABLES", "18", "where x(-1, n) is 0.0 for each n.", () -> {
            LimitTables x = with(5.0, 7.0, 3.0);
            for (int table = 0; table <= 1; table++) {
                dueD("the table " + table, x.entry(0, table, 1, 0), 0.5);
                dueD("the place 1", x.entry(0, table, 1, 1), -0.25);
            }
            x = with(5.0, 5.0);
            x.bridge(true);
            dueD("bridged", x.entry(0, 0, 1, 0), 0.0);
        });
        term("TABLES", "18", "1: like 0, but with c in the place of the 1 in 1 / d.", () -> {
            LimitTables x = with(1.0, 1.5, 3.5, 4.0, 8.0);
            dueD("column 1", x.entry(0, 1, 1, 0), 2.0);
            dueD("column 2", x.entry(0, 1, 2, 0), 1.5 + 2.0 / -1.5);
            double d = (3.5 + 2.0 / 1.5) - (1.5 + 2.0 / -1.5);
            differ("column 3", 0.5 + 3.0 / d, 0.5 + 1.0 / d);
            dueD("column 3", x.entry(0, 1, 3, 0), 0.5 + 3.0 / d);
            dueTable(1, 2.0, ROUGH);
        });
    }

    private void ofThree() {
        term("TABLES", "18", "2: a = x(c - 1, n + 1) - x(c - 1, n); b = x(c - 1, n + 2) - x(c - 1, n + 1); d = b - a; the "
                + "entry is x(c - 1, n) - (a * a) / d.", () -> {
            LimitTables x = with(1.0, 3.0, 4.0, 9.0, 2.0);
            dueD("column 1", x.entry(0, 2, 1, 0), 1.0 - 4.0 / -1.0);
            dueD("column 1, place 1", x.entry(0, 2, 1, 1), 3.0 - 1.0 / 4.0);
            dueTable(2, 2.0, ROUGH);
            LimitTables y = with(-0.0, 4.9E-324, 1.0);
            dueD("a square that is 0.0", y.entry(0, 2, 1, 0), -0.0);
        });
    }

    private void byRatio() {
        term("TABLES", "18", "3: d = q - 1, where q is the ratio times itself, so that it is there c times as a factor "
                + "(multiplied from the left to the right); the entry is x(c - 1, n + 1) + (x(c - 1, n + 1) - x(c - 1, n)) "
                + "/ d.", () -> {
            LimitTables x = with(1.0, 3.0, 4.0);
            dueD("column 1", x.entry(0, 3, 1, 0), 5.0);
            dueD("column 2", x.entry(0, 3, 2, 0), 5.0 + 0.0 / 3.0);
            x.setting(1, bits(3.0));
            dueD("another ratio", x.entry(0, 3, 2, 0), 4.5 + 0.5 / 8.0);
            double wrong = (1.6 * 1.6) * (1.6 * 1.6);
            differ("1.6, four times", 1.6 * 1.6 * 1.6 * 1.6, wrong);
            double[][] wanted = made(3, 1.6, ROUGH);
            double step = wanted[3][1] - wanted[3][0];
            differ("column 4", wanted[4][0], wanted[3][1] + step / (wrong - 1.0));
            for (double ratio : new double[] {1.5, 1.6, 2.0, 2.3, 3.1, 10.0}) {
                dueTable(3, ratio, ROUGH);
            }
        });
    }

    /** Asks for each entry about a row of each length whether it is there. */
    private void dueThere(int table) {
        for (int length = 0; length <= 16; length++) {
            LimitTables x = new LimitTables();
            for (int place = 0; place < length; place++) {
                x.add(0, bits(ROUGH[place]));
            }
            for (int c = -1; c <= 17; c++) {
                for (int n = -2; n <= 17; n++) {
                    boolean there = c >= 0 && n >= 0 && n + (table == 2 ? 2 * c : c) < length;
                    String of = "the table " + table + ", length " + length + ", column " + c + ", place " + n;
                    due(of, x.kind(0, table, c, n), there ? 0 : LimitTables.NONE);
                }
            }
        }
    }

    private void dueNotFar(int table) {
        LimitTables x = full();
        for (int far : FAR) {
            for (int near : new int[] {0, 1, -far, -2 * far, 16 - far, far}) {
                if (far < 0 || far > 15) {
                    due("column " + far + ", place " + near, x.kind(0, table, far, near), LimitTables.NONE);
                    due("column " + near + ", place " + far, x.kind(0, table, near, far), LimitTables.NONE);
                }
            }
        }
    }

    private void whichAreThere() {
        term("TABLES", "18 to 20", "It is there if n + c is less than the length of the row.", () -> {
            for (int table : new int[] {0, 1, 3}) {
                dueThere(table);
                dueNotFar(table);
            }
        });
        term("TABLES", "18 to 20", "It is there if n + 2 * c is less than the length of the row.", () -> {
            dueThere(2);
            dueNotFar(2);
        });
    }

    private void dueKind(String what, double guard, int table, int kind, double... row) {
        LimitTables x = with(row);
        x.setting(0, bits(guard));
        due(what, x.kind(0, table, 1, 0), kind);
    }

    private void tooSmall() {
        term("TABLES", "19", "A divisor is too small if its size is not greater than the guard", () -> {
            for (int table = 0; table <= 1; table++) {
                for (double guard : new double[] {0.5, 1.0, 0.125, 1.0E-10, 4.9E-324}) {
                    dueKind("as great as the guard", guard, table, 2, 0.0, guard);
                    dueKind("as great below 0.0", guard, table, 2, guard, 0.0);
                    dueKind("smaller than the guard", guard, table, 2, 0.0, Math.nextDown(guard));
                    boolean finite = guard > 1.0E-300;
                    dueKind("greater than the guard", guard, table, finite ? 0 : 2, 0.0, Math.nextUp(guard));
                    dueKind("greater below 0.0", guard, table, finite ? 0 : 2, Math.nextUp(guard), 0.0);
                }
                dueKind("0.0 at the guard 0.0", 0.0, table, 2, 3.0, 3.0);
                dueKind("-0.0 at the guard 0.0", 0.0, table, 2, 0.0, -0.0);
                dueKind("a small one at the guard 0.0", 0.0, table, 0, 0.0, 1.0E-300);
            }
            LimitTables x = with(1.0, 2.0, 4.0);
            x.setting(0, bits(0.5));
            due("in the column 2, as great as the guard", x.kind(0, 0, 2, 0), 2);
            x.setting(0, bits(Math.nextDown(0.5)));
            due("in the column 2, greater", x.kind(0, 0, 2, 0), 0);
        });
        term("TABLES", "19", "(one that is a NaN is too small).", () -> {
            LimitTables x = Planted.with(5.0, INFINITE, INFINITE);
            due("broken", x.kind(0, 2, 1, 0), 2);
            x.bridge(true);
            due("bridged", x.kind(0, 2, 1, 0), 1);
            dueD("made with 0.0", x.entry(0, 2, 1, 0), 5.0);
        });
    }

    private void tooSmallInEachTable() {
        term("TABLES", "19", "A divisor is too small if its size is not greater than the guard", () -> {
            dueKind("table 2: as great as the guard", 0.5, 2, 2, 0.0, 1.0, 2.5);
            dueKind("table 2: as great below 0.0", 0.5, 2, 2, 0.0, 1.0, 1.5);
            dueKind("table 2: greater", Math.nextDown(0.5), 2, 0, 0.0, 1.0, 2.5);
            dueKind("table 2: greater below 0.0", Math.nextDown(0.5), 2, 0, 0.0, 1.0, 1.5);
            dueKind("table 2: 0.0 at the guard 0.0", 0.0, 2, 2, 0.0, 1.0, 2.0);
            dueKind("table 2: a step as great as the guard is no divisor", 0.5, 2, 0, 0.0, 0.5, 2.0);
            LimitTables x = with(1.0, 3.0, 4.0);
            x.setting(1, bits(1.5));
            x.setting(0, bits(0.5));
            due("table 3: as great as the guard", x.kind(0, 3, 1, 0), 2);
            due("table 3: the column 2 is made of that", x.kind(0, 3, 2, 0), 3);
            x.bridge(true);
            due("table 3: bridged", x.kind(0, 3, 1, 0), 1);
            due("table 3: greater in the column 2", x.kind(0, 3, 2, 0), 0);
            x.setting(0, bits(Math.nextDown(0.5)));
            due("table 3: greater", x.kind(0, 3, 1, 0), 0);
            x.setting(0, bits(1.0));
            x.setting(1, bits(2.0));
            due("table 3: 1.0 at the guard 1.0", x.kind(0, 3, 1, 0), 1);
            x.setting(1, bits(Math.nextUp(2.0)));
            due("table 3: a bit more at the guard 1.0", x.kind(0, 3, 1, 0), 0);
        });
    }

    private void brokenOrBridged() {
        term("TABLES", "18, 19", "Then the entry is broken, if bridging is off;", () -> {
            double[][] rows = {{2.0, 2.0}, {2.0, 2.0}, {1.0, 2.0, 3.0}};
            for (int table = 0; table <= 2; table++) {
                LimitTables x = with(rows[table]);
                due("the kind in the table " + table, x.kind(0, table, 1, 0), 2);
                dueD("the entry", x.entry(0, table, 1, 0), NAN);
            }
            LimitTables x = with(2.0, 3.0);
            x.setting(0, bits(1.0));
            due("the kind in the table 3", x.kind(0, 3, 1, 0), 2);
            dueD("the entry in the table 3", x.entry(0, 3, 1, 0), NAN);
        });
        term("TABLES", "18, 19", "if it is on, the quotient counts as 0.0, and the entry is made with that (and is a bridged "
                + "one).", () -> {
            LimitTables x = with(2.0, 2.0, 5.0);
            x.bridge(true);
            for (int table = 0; table <= 1; table++) {
                dueBridged(x, table, 1, 0, 0.0);
                due("made of a bridged one", x.kind(0, table, 2, 0), 0);
                dueD("its value", x.entry(0, table, 2, 0), 2.0 + (table + 1) / (1.0 / 3.0));
            }
            LimitTables y = with(1.0, 2.0, 3.0, 5.0, 6.0);
            y.bridge(true);
            dueBridged(y, 0, 2, 0, 2.0);
            dueBridged(y, 1, 2, 0, 2.0);
            dueBridged(y, 2, 1, 0, 1.0);
            y.setting(0, bits(1.0));
            dueBridged(y, 3, 1, 0, 2.0);
            due("above the guard again", y.kind(0, 3, 2, 0), 0);
            dueD("its value", y.entry(0, 3, 2, 0), 3.0 + 1.0 / 3.0);
            LimitTables zero = with(0.0, -0.0, -0.0);
            zero.bridge(true);
            zero.setting(0, bits(1.0));
            dueBridged(zero, 0, 2, 0, 0.0);
            dueBridged(zero, 1, 2, 0, 0.0);
            dueBridged(zero, 2, 1, 0, 0.0);
            dueBridged(zero, 3, 1, 0, 0.0);
            LimitTables below = with(-0.0, -0.0, -0.0);
            below.bridge(true);
            dueBridged(below, 2, 1, 0, -0.0);
        });
    }

    private void dueBridged(LimitTables x, int table, int column, int place, double value) {
        due("the kind in the table " + table, x.kind(0, table, column, place), 1);
        dueD("the entry in the table " + table, x.entry(0, table, column, place), value);
    }

    private void brokenByOthers() {
        term("TABLES", "18, 19", "An entry is also broken if any entry is broken of which it is made,", () -> {
            for (int table = 0; table <= 1; table++) {
                LimitTables x = with(1.0, 1.0, 2.0, 4.0);
                due("the first one is broken", x.kind(0, table, 2, 0), 3);
                due("none is broken", x.kind(0, table, 2, 1), 0);
                due("of one broken by others", x.kind(0, table, 3, 0), 3);
                x = with(1.0, 2.0, 4.0, 4.0);
                due("the second one is broken", x.kind(0, table, 2, 1), 3);
                due("none of them is broken", x.kind(0, table, 2, 0), 0);
                due("of a second one broken by others", x.kind(0, table, 3, 0), 3);
                dueD("it has no value", x.entry(0, table, 3, 0), NAN);
            }
            double[][] rows = {{1.0, 2.0, 3.0, 5.0, 9.0}, {0.0, 2.0, 3.0, 4.0, 9.0}, {0.0, 1.0, 4.0, 5.0, 6.0}};
            for (int broken = 0; broken <= 2; broken++) {
                LimitTables x = with(rows[broken]);
                for (int place = 0; place <= 2; place++) {
                    due("the table 2, column 1", x.kind(0, 2, 1, place), place == broken ? 2 : 0);
                }
                due("the table 2, column 2, one of three is broken", x.kind(0, 2, 2, 0), 3);
                dueD("it has no value", x.entry(0, 2, 2, 0), NAN);
            }
            LimitTables last = with(0.0, 1.0, 4.0, 9.0, 3.0, 2.0, 1.0);
            due("the table 2, the last one of five is broken", last.kind(0, 2, 1, 4), 2);
            due("the last one of three is broken by it", last.kind(0, 2, 2, 2), 3);
            due("the others are not", last.kind(0, 2, 2, 0) + last.kind(0, 2, 2, 1), 0);
            due("and breaks the one of the column 3", last.kind(0, 2, 3, 0), 3);
            LimitTables x = with(1.0, 2.0, 4.0);
            x.setting(0, bits(1.0));
            due("the table 3", x.kind(0, 3, 2, 0), 3);
            due("which is broken by its own divisor in the column 1", x.kind(0, 3, 1, 1), 2);
            x.setting(1, bits(3.0));
            due("and now is not", x.kind(0, 3, 2, 0), 0);
        });
    }

    private void notFinite() {
        term("TABLES", "18, 19", "or if it is not finite.", () -> {
            LimitTables x = with(0.0, 4.9E-324, 4.9E-324, 1.0, 1.0 - 1.0E-300);
            x.setting(0, 0L);
            for (int table = 0; table <= 1; table++) {
                due("1 / 4.9E-324", x.kind(0, table, 1, 0), 2);
                dueD("has no value", x.entry(0, table, 1, 0), NAN);
                due("what is made of it", x.kind(0, table, 2, 0), 3);
            }
            x.bridge(true);
            due("bridging does not help", x.kind(0, 0, 1, 0), 2);
            due("nor what is made of it", x.kind(0, 0, 2, 0), 3);
            due("but a divisor of 0.0", x.kind(0, 0, 1, 1), 1);
            LimitTables edge = with(0.0, 5.7E-309);
            edge.setting(0, 0L);
            due("just finite", edge.kind(0, 0, 1, 0), 0);
            dueD("its value", edge.entry(0, 0, 1, 0), 1.0 / 5.7E-309);
            LimitTables minus = with(4.9E-324, 0.0);
            minus.setting(0, 0L);
            due("1 / -4.9E-324", minus.kind(0, 0, 1, 0), 2);
            LimitTables inverse = with(5.7E-309, 0.0, 5.7E-309);
            inverse.setting(0, 0L);
            due("a divisor that is infinite is not too small", inverse.kind(0, 0, 2, 0), 0);
            dueD("its quotient is 0.0", inverse.entry(0, 0, 2, 0), 0.0);
        });
        term("TABLES", "18, 19", "or if it is not finite.", () -> {
            double great = Double.MAX_VALUE;
            LimitTables x = Planted.with(-great, great);
            due("the table 3, beyond all numbers", x.kind(0, 3, 1, 0), 2);
            x = Planted.with(great, great, great);
            due("the greatest of all numbers is finite", x.kind(0, 3, 1, 0), 0);
            x = Planted.with(-great, -great, -great);
            due("and so is the least", x.kind(0, 3, 1, 0), 0);
            x = Planted.with(0.0, 1.0E200, 1.0E200);
            due("the table 2, a square beyond all numbers", x.kind(0, 2, 1, 0), 2);
            x = Planted.with(-great, great, -great);
            due("the table 2, an infinite one by an infinite one", x.kind(0, 2, 1, 0), 2);
            x.bridge(true);
            due("which no bridge helps", x.kind(0, 2, 1, 0), 2);
        });
    }

    private void entry() {
        promise(18, "`row`: 0 or 1", () -> {
            LimitTables x = both(new double[] {1.0, 3.0}, 2.0, 6.0);
            dueD("of 0", x.entry(0, 0, 1, 0), 0.5);
            dueD("of 1", x.entry(1, 0, 1, 0), 0.25);
        });
        promise(18, "`table`: 0 to 3", () -> {
            double[] wanted = {3.0 + 1.0 / 0.5, 3.0 + 2.0 / 0.5, 1.0 - 4.0 / -1.0, 5.0};
            for (int table = 0; table <= 3; table++) {
                LimitTables x = with(1.0, 3.0, 4.0);
                dueD("the table " + table, x.entry(0, table, table < 2 ? 2 : 1, 0), wanted[table]);
            }
        });
        promise(18, "`column`: a column", () -> {
            LimitTables x = full();
            dueText("the last column", String.valueOf(x.entry(0, 3, 15, 0) > 0.0), "true");
            dueD("behind it", x.entry(0, 3, 16, 0), NAN);
            dueD("ahead of the first", x.entry(0, 3, -1, 0), NAN);
            dueD("ahead of the first, with a place as of a row", x.entry(0, 3, -1, 16), NAN);
        });
        promise(18, "`place`: a place", () -> {
            LimitTables x = full();
            dueD("the last place", x.entry(0, 0, 0, 15), x.number(0, 15));
            dueD("behind it", x.entry(0, 0, 0, 16), NAN);
            dueD("ahead of the first", x.entry(0, 0, 1, -1), NAN);
        });
        promise(18, "Returns the entry;", () -> {
            LimitTables x = both(new double[] {-0.0}, 1.0, 1.5, 1.75);
            dueD("a zero", x.entry(0, 2, 0, 0), -0.0);
            dueD("of the table 2", x.entry(1, 2, 1, 0), 2.0);
        });
        promise(18, "a NaN if there is no such row, table or entry, or it is broken.", () -> {
            for (int row : NO_ROWS) {
                nothing("of the row " + row, Boundaries::lived, x -> x.entry(row, 0, 0, 0), NAN);
            }
            for (int table : NO_TABLES) {
                nothing("of the table " + table, Boundaries::lived, x -> x.entry(0, table, 0, 0), NAN);
            }
            for (int table = 0; table <= 3; table++) {
                LimitTables x = full();
                for (int far : FAR) {
                    dueD("the column " + far, x.entry(0, table, far, 0), NAN);
                    dueD("the column " + far + " and its like", x.entry(0, table, far, -far), NAN);
                    dueD("the place " + far, x.entry(0, table, 0, far), NAN);
                    dueD("both", x.entry(0, table, far, far), NAN);
                }
                dueD("of an empty row", new LimitTables().entry(0, table, 0, 0), NAN);
            }
            dueD("broken by its own divisor", with(1.0, 1.0).entry(0, 0, 1, 0), NAN);
            dueD("broken by another one", with(1.0, 1.0, 2.0).entry(0, 0, 2, 0), NAN);
        });
    }

    private void kind() {
        promise(19, "`row`: 0 or 1", () -> {
            LimitTables x = both(new double[] {1.0, 3.0}, 2.0, 2.0);
            due("of 0", x.kind(0, 0, 1, 0), 0);
            due("of 1", x.kind(1, 0, 1, 0), 2);
        });
        promise(19, "`table`: 0 to 3", () -> {
            LimitTables x = with(1.0, 2.0, 3.0);
            int[] wanted = {2, 2, LimitTables.NONE, 0};
            for (int table = 0; table <= 3; table++) {
                due("the table " + table, x.kind(0, table, 2, 0), wanted[table]);
            }
        });
        promise(19, "`column`: a column", () -> {
            due("the last column", full().kind(0, 3, 15, 0), 0);
            due("behind it", full().kind(0, 3, 16, 0), LimitTables.NONE);
            due("ahead of the first", full().kind(0, 3, -1, 0), LimitTables.NONE);
        });
        promise(19, "`place`: a place", () -> {
            due("the last place", full().kind(0, 3, 1, 14), 0);
            due("behind it", full().kind(0, 3, 1, 15), LimitTables.NONE);
            due("ahead of the first", full().kind(0, 3, 1, -1), LimitTables.NONE);
        });
        promise(19, "Returns 0 if the entry is there, and neither broken nor bridged,", () -> {
            LimitTables x = with(1.0, 2.0, 2.0, 6.0);
            due("of the row", x.kind(0, 0, 0, 3), 0);
            due("of the column 1", x.kind(0, 0, 1, 2), 0);
            x.bridge(true);
            due("with bridging, but not bridged", x.kind(0, 0, 1, 2), 0);
            due("made of a bridged one", x.kind(0, 0, 2, 0), 0);
        });
    }

    private void kindAnswers() {
        promise(19, "1 if it is bridged (and not broken),", () -> {
            LimitTables x = with(1.0, 2.0, 2.0, 2.0);
            x.bridge(true);
            due("bridged", x.kind(0, 0, 1, 1), 1);
            due("bridged of bridged ones", x.kind(0, 0, 2, 1), 1);
            x = with(0.0, 4.9E-324, 4.9E-324 * 2);
            x.setting(0, 0L);
            x.bridge(true);
            due("of two broken ones with a divisor of 0.0", x.kind(0, 0, 2, 0), 3);
        });
        promise(19, "2 if it is broken by its own divisor or because it is not finite,", () -> {
            due("by its own divisor", with(1.0, 1.0).kind(0, 0, 1, 0), 2);
            LimitTables x = with(0.0, 4.9E-324);
            due("by its own divisor, which is small", x.kind(0, 0, 1, 0), 2);
            x.setting(0, 0L);
            due("not finite", x.kind(0, 0, 1, 0), 2);
            x.bridge(true);
            due("not finite with bridging", x.kind(0, 0, 1, 0), 2);
            due("in the column 2", with(1.0, 2.0, 3.0).kind(0, 0, 2, 0), 2);
        });
        promise(19, "3 if it is broken by another one;", () -> {
            LimitTables x = with(1.0, 1.0, 1.0, 1.0);
            for (int table = 0; table <= 1; table++) {
                due("of two broken ones", x.kind(0, table, 2, 0), 3);
                due("of two broken by others", x.kind(0, table, 3, 0), 3);
            }
            due("of one broken one", with(1.0, 1.0, 2.0).kind(0, 0, 2, 0), 3);
            due("of three broken ones", with(1.0, 1.0, 1.0, 1.0, 1.0).kind(0, 2, 2, 0), 3);
        });
        promise(19, "UNKNOWN (row or table);", () -> {
            for (int row : NO_ROWS) {
                nothing("of the row " + row, Boundaries::lived, x -> x.kind(row, 0, 0, 0), LimitTables.UNKNOWN);
            }
            for (int table : NO_TABLES) {
                nothing("of the table " + table, Boundaries::lived, x -> x.kind(0, table, 0, 0), LimitTables.UNKNOWN);
            }
        });
        promise(19, "NONE if there is no such entry.", () -> {
            for (int table = 0; table <= 3; table++) {
                int of = table;
                for (int far : FAR) {
                    nothing("the column " + far, Boundaries::lived, x -> x.kind(0, of, far, 0), LimitTables.NONE);
                    nothing("the place " + far, Boundaries::lived, x -> x.kind(0, of, 0, far), LimitTables.NONE);
                }
                due("of an empty row", new LimitTables().kind(0, table, 0, 0), LimitTables.NONE);
                due("of one number, the column 1", with(1.0).kind(0, table, 1, 0), LimitTables.NONE);
            }
        });
    }

    private void table() {
        promise(20, "`row`: 0 or 1", () -> {
            LimitTables x = both(new double[] {1.0, 3.0}, 2.0);
            due("of 0", x.table(0, 0, 0), 2);
            due("of 1", x.table(1, 0, 0), 1);
        });
        promise(20, "`table`: 0 to 3", () -> {
            int[] wanted = {16, 16, 8, 16};
            for (int table = 0; table <= 3; table++) {
                due("the table " + table, full().table(0, table, 0), wanted[table]);
            }
        });
        promise(20, "`what`: 0 for its columns that have entries,", () -> {
            LimitTables x = new LimitTables();
            for (int length = 0; length <= 16; length++) {
                for (int table = 0; table <= 3; table++) {
                    due("of " + length + " in the table " + table, x.table(0, table, 0),
                            table == 2 ? (length + 1) / 2 : length);
                }
                x.add(0, bits(3.0));
            }
        });
        promise(20, "1 for its entries that are broken,", () -> {
            due("none", with(1.0, 2.0, 4.0).table(0, 0, 1), 0);
            due("of an empty row", new LimitTables().table(0, 0, 1), 0);
            LimitTables x = with(1.0, 2.0, 2.0, 6.0, 7.0);
            due("by their own divisors and by others", x.table(0, 0, 1), 1 + 2 + 2 + 1);
            due("of another table", x.table(0, 3, 1), 0);
            x.bridge(true);
            due("bridged ones are not", x.table(0, 0, 1), 0);
            x = new LimitTables();
            for (int i = 0; i < 16; i++) {
                addAll(x, 0, 2.0);
            }
            due("all but the row", x.table(0, 0, 1), 120);
            due("all but the row, in the table 2", x.table(0, 2, 1), 56);
        });
        promise(20, "2 for those that are bridged,", () -> {
            LimitTables x = with(1.0, 2.0, 2.0, 6.0, 7.0);
            due("bridging is off", x.table(0, 0, 2), 0);
            x.bridge(true);
            due("bridging is on", x.table(0, 0, 2), 1);
            due("of another table", x.table(0, 3, 2), 0);
            x = with(0.0, 4.9E-324, 4.9E-324);
            x.setting(0, 0L);
            x.bridge(true);
            due("broken ones are not", x.table(0, 0, 2), 1);
            due("which are one that is not finite and what is made of it", x.table(0, 0, 1), 2);
        });
        promise(20, "3 for the lowest column with a broken entry (NONE without one),", () -> {
            due("the column 1", with(1.0, 2.0, 2.0, 6.0).table(0, 0, 3), 1);
            due("the column 2", with(1.0, 2.0, 3.0, 5.0).table(0, 0, 3), 2);
            due("at the last place", with(1.0, 3.0, 2.0, 2.0).table(0, 0, 3), 1);
            due("none", with(1.0, 2.0, 4.0).table(0, 0, 3), LimitTables.NONE);
            due("of an empty row", new LimitTables().table(0, 0, 3), LimitTables.NONE);
            LimitTables x = with(1.0, 1.0);
            x.bridge(true);
            due("bridged ones are not", x.table(0, 0, 3), LimitTables.NONE);
            x.fill(0, 3, 6);
            x.bridge(false);
            due("the column 3", x.table(0, 0, 3), 3);
        });
        promise(20, "4 for the column of the guess (NONE without an error)", () -> {
            due("the column 2 of the table 0", with(1.0, 2.0, 4.0).table(0, 0, 4), 2);
            due("the column 1 of the table 2", with(1.0, 2.0, 4.0).table(0, 2, 4), 1);
            due("without a column 2", with(1.0, 2.0).table(0, 0, 4), LimitTables.NONE);
            due("with a broken one", with(1.0, 2.0, 3.0).table(0, 0, 4), LimitTables.NONE);
            due("of one number", with(1.0).table(0, 3, 4), LimitTables.NONE);
            due("of an empty row", new LimitTables().table(0, 3, 4), LimitTables.NONE);
        });
    }

    private void tableAnswers() {
        promise(20, "Returns the number;", () -> {
            LimitTables x = with(1.0, 2.0, 2.0, 6.0, 7.0);
            long[] wanted = {5, 6, 0, 1, 2};
            for (int what = 0; what <= 4; what++) {
                due("what " + what, x.table(0, 0, what), wanted[what]);
            }
        });
        promise(20, "UNKNOWN (row or table);", () -> {
            for (int row : NO_ROWS) {
                nothing("of the row " + row, Boundaries::lived, x -> x.table(row, 0, 0), LimitTables.UNKNOWN);
            }
            for (int table : NO_TABLES) {
                nothing("of the table " + table, Boundaries::lived, x -> x.table(0, table, 0), LimitTables.UNKNOWN);
            }
        });
        promise(20, "BAD_VALUE.", () -> {
            for (int what : new int[] {-1, 5, 6, LEAST, MOST, 256}) {
                nothing("what " + what, Boundaries::lived, x -> x.table(0, 0, what), LimitTables.BAD_VALUE);
            }
        });
    }
}
