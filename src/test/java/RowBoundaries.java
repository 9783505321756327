import java.util.function.Supplier;

/** New objects, numbers and rows: promises 1 to 4, 7, 8 and 17. */
final class RowBoundaries extends Boundaries {
    RowBoundaries(Sentences sentences) {
        super(sentences);
    }

    @Override
    void all() {
        newObject();
        numbers();
        bitsOfNumbers();
        rows();
        add();
        cut();
        setRowAndPlace();
        setAnswers();
        sum();
        sumRefused();
        differences();
        number();
    }

    private void newObject() {
        promise(1, "Creates two empty rows.", () -> {
            LimitTables x = new LimitTables();
            dueRow("row 0", x, 0);
            dueRow("row 1", x, 1);
            addAll(x, 0, 1.0);
            dueRow("row 0 of another object", new LimitTables(), 0);
            LimitTables one = new LimitTables();
            LimitTables other = new LimitTables();
            typed(one, "5").fill(1, 0, 3);
            one.setting(1, bits(3.0));
            one.keep();
            dueText("an object beside it", Probe.deep(other), Probe.deep(new LimitTables()));
        });
        term("What it is", "1 to 27", "An object is used for at most 512 calls after it has been made", () -> {
            LimitTables x = new LimitTables();
            for (int call = 1; call <= 508; call += 3) {
                due("call " + call, x.add(0, bits(call)), 1);
                dueD("call " + (call + 1), x.number(0, 0), call);
                due("call " + (call + 2), x.cut(0, 1), 0);
            }
            due("call 511", x.undo(), 3);
            dueD("call 512", x.number(0, 0), 508.0);
        });
    }

    private void numbers() {
        term("NUMBERS", "2, 6, 18", "All numbers with a fraction are doubles (64 bits, IEEE 754);", () -> {
            double[] fine = {Math.nextUp(1.0), Math.nextDown(1.0), Math.nextDown(1.0E9), 1.0 / 3.0, 4.9E-324};
            dueRow("numbers of which the last bit counts", with(fine), 0, fine);
            LimitTables x = with(1.0, Math.nextUp(1.0));
            x.setting(0, 0L);
            dueD("the least divisor at 1.0", x.entry(0, 0, 1, 0), 1.0 / Math.ulp(1.0));
        });
        term("NUMBERS", "6, 18", "each operation is done in doubles and rounded by itself, in the order in which it is "
                + "told here;", () -> {
            double a = 0.7 - 0.1;
            double d = (1.1 - 0.7) - a;
            differ("(a * a) / d", 0.1 - (a * a) / d, 0.1 - a * (a / d));
            dueD("(a * a) / d", with(0.1, 0.7, 1.1).entry(0, 2, 1, 0), 0.1 - (a * a) / d);
            double step = 0.9 - 0.1;
            double divisor = 1.7 - 1.0;
            LimitTables x = with(0.1, 0.9);
            x.setting(1, bits(1.7));
            differ("+ (..) / d", 0.9 + step / divisor, (1.7 * 0.9 - 0.1) / divisor);
            dueD("+ (..) / d", x.entry(0, 3, 1, 0), 0.9 + step / divisor);
        });
        term("NUMBERS", "5, 6, 18", "whole numbers in it are converted first.", () -> {
            LimitTables x = new LimitTables();
            x.fill(0, 1, 2);
            dueD("1 / 2 in a series", x.number(0, 1), 0.5);
            typed(x, "0.5").read(0);
            dueD("5 / 10 in a text", x.number(0, 0), 0.5);
            dueD("1 / 4.0 in the table 0", with(0.0, 4.0).entry(0, 0, 1, 0), 0.25);
        });
        term("NUMBERS", "2, 19, 22", "The size of a number is the number without its sign.", () -> {
            due("-1.0E9 has the size 1.0E9", new LimitTables().add(0, bits(-1.0E9)), 1);
            LimitTables x = with(0.0, -0.5, 0.5);
            x.setting(0, bits(0.5));
            due("-0.5 has the size 0.5", x.kind(0, 0, 1, 0), 2);
            dueD("the size of a difference below 0.0", with(0.0, 4.0).error(0, 3), 4.0);
            dueD("the size of a difference above 0.0", with(4.0, 0.0).error(0, 3), 4.0);
            x = with(-0.0, -0.0, 0.0);
            x.bridge(true);
            dueD("-0.0 less 0.0 has the size 0.0", x.error(0, 2), 0.0);
        });
    }

    private void bitsOfNumbers() {
        term("NUMBERS", "2, 4, 10, 25", "Where an argument is named \"bits\", a double is given by its bits, as told by "
                + "Double.doubleToRawLongBits.", () -> {
            for (int power = -1074; power <= 29; power++) {
                double value = Math.scalb(1.0, power);
                LimitTables x = with(value, -value, value * 1.5, Math.nextDown(value), Math.nextUp(value));
                dueRow("2 to the power " + power, x, 0,
                        value, -value, value * 1.5, Math.nextDown(value), Math.nextUp(value));
            }
            double[] edges = {0.0, -0.0, Double.MIN_VALUE, -Double.MIN_VALUE, Double.MIN_NORMAL,
                Math.nextDown(Double.MIN_NORMAL), -Double.MIN_NORMAL, 1.0E9, -1.0E9};
            dueRow("the edges", with(edges), 0, edges);
            LimitTables x = with(1.0);
            x.set(0, 0, bits(Math.nextDown(Double.MIN_NORMAL)));
            dueD("by set", x.number(0, 0), Math.nextDown(Double.MIN_NORMAL));
            x.setting(0, 1L);
            dueD("by setting", x.told(0), Double.MIN_VALUE);
            LimitTables y = with(0.0, 3.0);
            due("by needed, just enough", y.needed(0, 3, bits(3.0)), 2);
            due("by needed, too little", y.needed(0, 3, bits(Math.nextDown(3.0))), LimitTables.NONE);
        });
    }

    private void rows() {
        term("ROWS", "1 to 27", "There are two rows, numbered 0 and 1,", () -> {
            LimitTables x = both(new double[] {1.0, 2.0}, 3.0);
            dueRow("row 0", x, 0, 1.0, 2.0);
            dueRow("row 1", x, 1, 3.0);
            for (int row : NO_ROWS) {
                due("add to " + row, x.add(row, bits(1.0)), LimitTables.UNKNOWN);
            }
        });
        term("ROWS", "2, 5, 6, 9", "each of at most 16 numbers", () -> {
            LimitTables x = new LimitTables();
            for (int row = 0; row <= 1; row++) {
                for (int many = 1; many <= 16; many++) {
                    due("add number " + many, x.add(row, bits(many)), many);
                }
                due("add one more", x.add(row, bits(17.0)), LimitTables.FULL);
                due("numbers then", x.count(row), 16);
                dueD("the last one", x.number(row, 15), 16.0);
                dueD("behind it", x.number(row, 16), NAN);
            }
        });
        term("ROWS", "1 to 4", "(finite, their size at most 1.0E9; empty at first),", () -> {
            due("empty at first", new LimitTables().count(0) + new LimitTables().count(1), 0);
            double[] edges = {1.0E9, -1.0E9, Math.nextDown(1.0E9), Math.nextUp(-1.0E9)};
            dueRow("of a size at most 1.0E9", with(edges), 0, edges);
            LimitTables x = with(0.0);
            due("set to 1.0E9", x.set(0, 0, bits(1.0E9)), 0);
            due("set to -1.0E9", x.set(0, 0, bits(-1.0E9)), 0);
        });
        term("ROWS", "4, 17", "at places from 0 on.", () -> {
            LimitTables x = with(5.0, 6.0);
            dueD("place 0", x.number(0, 0), 5.0);
            dueD("place 1", x.number(0, 1), 6.0);
            due("set at 0", x.set(0, 0, bits(7.0)), 0);
            due("set at -1", x.set(0, -1, bits(7.0)), LimitTables.UNKNOWN);
            dueRow("then", x, 0, 7.0, 6.0);
        });
        term("ROWS", "2, 4", "A number that is not finite, or whose size is greater, is refused.", () -> {
            for (long refused : REFUSED) {
                due("add of the bits " + refused, with(1.0).add(0, refused), LimitTables.BAD_VALUE);
                due("set to the bits " + refused, with(1.0).set(0, 0, refused), LimitTables.BAD_VALUE);
            }
        });
    }

    private void add() {
        promise(2, "Puts a number behind a row.", () -> {
            LimitTables x = both(new double[] {4.0, 5.0}, 9.0);
            x.add(0, bits(6.0));
            dueRow("the row", x, 0, 4.0, 5.0, 6.0);
            dueRow("the other row", x, 1, 9.0);
            x.cut(0, 2);
            x.add(0, bits(7.0));
            dueRow("behind what was cut", x, 0, 4.0, 7.0);
        });
        promise(2, "This is an act.", () -> act("add(0, 2.0)", () -> with(1.0), x -> x.add(0, bits(2.0)), 2));
        promise(2, "`row`: 0 or 1", () -> {
            due("to 0", new LimitTables().add(0, 0L), 1);
            due("to 1", new LimitTables().add(1, 0L), 1);
        });
        promise(2, "`bits`: the number", () -> {
            LimitTables x = with(-0.0, 0.0, 0.1);
            dueRow("the row", x, 0, -0.0, 0.0, 0.1);
        });
        promise(2, "Returns how many numbers the row has then;", () -> {
            LimitTables x = both(new double[0], 1.0, 1.0, 1.0);
            for (int many = 1; many <= 16; many++) {
                due("number " + many, x.add(0, bits(1.0)), many);
            }
        });
        promise(2, "UNKNOWN;", () -> {
            for (int row : NO_ROWS) {
                nothing("add to " + row, Boundaries::lived, x -> x.add(row, bits(1.0)), LimitTables.UNKNOWN);
            }
        });
        promise(2, "BAD_VALUE if it is refused;", () -> {
            for (long refused : REFUSED) {
                nothing("add of the bits " + refused, Boundaries::lived, x -> x.add(1, refused), LimitTables.BAD_VALUE);
            }
        });
        promise(2, "FULL if the row has 16.", () -> {
            nothing("add to a full row", Boundaries::full, x -> x.add(0, bits(1.0)), LimitTables.FULL);
            due("add to a row of 15", full().cut(0, 1) + with(1.0).add(0, 0L), 15 + 2);
            LimitTables x = full();
            due("the other row is not full", x.add(1, 0L), 1);
            x.cut(0, 1);
            due("add to 15", x.add(0, 0L), 16);
        });
    }

    private void cut() {
        promise(3, "Takes the last numbers of a row away.", () -> {
            LimitTables x = both(new double[] {1.0, 2.0, 3.0, 4.0}, 5.0, 6.0);
            x.cut(0, 3);
            dueRow("the row", x, 0, 1.0);
            dueRow("the other row", x, 1, 5.0, 6.0);
            x.cut(0, 1);
            dueRow("all cut", x, 0);
        });
        promise(3, "This is an act.", () -> act("cut(0, 2)", () -> with(1.0, 2.0, 3.0), x -> x.cut(0, 2), 1));
        promise(3, "`row`: 0 or 1", () -> {
            due("of 0", with(1.0).cut(0, 1), 0);
            due("of 1", both(new double[0], 1.0).cut(1, 1), 0);
        });
        promise(3, "`many`: 1 to 16", () -> {
            due("cut by 1", full().cut(0, 1), 15);
            due("cut by 16", full().cut(0, 16), 0);
            due("cut by 0", full().cut(0, 0), LimitTables.BAD_VALUE);
            due("cut by 17", full().cut(0, 17), LimitTables.BAD_VALUE);
        });
        promise(3, "Returns how many numbers the row has then;", () -> {
            for (int many = 1; many <= 16; many++) {
                due("cut by " + many, full().cut(0, many), 16 - many);
            }
        });
        promise(3, "UNKNOWN;", () -> {
            for (int row : NO_ROWS) {
                nothing("cut of " + row, Boundaries::lived, x -> x.cut(row, 1), LimitTables.UNKNOWN);
            }
        });
        promise(3, "BAD_VALUE;", () -> {
            for (int many : new int[] {0, -1, 17, LEAST, MOST}) {
                nothing("cut by " + many, Boundaries::lived, x -> x.cut(0, many), LimitTables.BAD_VALUE);
            }
        });
        promise(3, "NOT_POSSIBLE if it has not so many.", () -> {
            for (int many = 0; many < 16; many++) {
                int had = many;
                Supplier<LimitTables> make = () -> {
                    LimitTables x = new LimitTables();
                    x.fill(0, 0, 16);
                    x.fill(1, 0, 16 - had);
                    x.cut(1, 16 - had);
                    for (int i = 0; i < had; i++) {
                        x.add(1, 0L);
                    }
                    return x;
                };
                nothing("cut of " + had + " by one more", make, x -> x.cut(1, had + 1), LimitTables.NOT_POSSIBLE);
                if (had > 0) {
                    due("cut of " + had + " by all", make.get().cut(1, had), 0);
                }
            }
        });
    }

    private void setRowAndPlace() {
        promise(4, "Sets a number of a row.", () -> {
            LimitTables x = both(new double[] {1.0, 2.0, 3.0}, 4.0, 5.0);
            x.set(0, 1, bits(8.0));
            dueRow("the row", x, 0, 1.0, 8.0, 3.0);
            dueRow("the other row", x, 1, 4.0, 5.0);
        });
        promise(4, "This is an act.", () -> act("set(0, 1, 9.0)", () -> with(1.0, 2.0), x -> x.set(0, 1, bits(9.0)), 1));
        promise(4, "`row`: 0 or 1", () -> {
            due("in 0", with(1.0).set(0, 0, 0L), 0);
            due("in 1", both(new double[0], 1.0).set(1, 0, 0L), 0);
        });
        promise(4, "`place`: a place in it", () -> {
            LimitTables x = both(new double[] {1.0, 2.0}, 3.0);
            due("the first place", x.set(0, 0, bits(4.0)), 0);
            due("the last place", x.set(0, 1, bits(5.0)), 1);
            due("behind the last place", x.set(0, 2, bits(6.0)), LimitTables.UNKNOWN);
            due("a place of the other row alone", x.set(1, 1, bits(6.0)), LimitTables.UNKNOWN);
            x.cut(0, 1);
            due("a place that was cut", x.set(0, 1, bits(6.0)), LimitTables.UNKNOWN);
            due("the last one of 16", full().set(0, 15, bits(6.0)), 15);
        });
        promise(4, "`bits`: the number", () -> {
            LimitTables x = with(1.0);
            x.set(0, 0, bits(Math.nextUp(1.0)));
            dueRow("the row", x, 0, Math.nextUp(1.0));
        });
    }

    private void setAnswers() {
        promise(4, "Returns the place;", () -> {
            LimitTables x = full();
            for (int place = 0; place < 16; place++) {
                due("at " + place, x.set(0, place, bits(-5.0)), place);
            }
        });
        promise(4, "UNKNOWN (row or place);", () -> {
            for (int row : NO_ROWS) {
                nothing("in " + row, Boundaries::lived, x -> x.set(row, 0, 0L), LimitTables.UNKNOWN);
            }
            for (int place : new int[] {-1, 3, 15, 16, LEAST, MOST, 1 << 30}) {
                nothing("at " + place, Boundaries::lived, x -> x.set(1, place, 0L), LimitTables.UNKNOWN);
            }
            nothing("in an empty row", LimitTables::new, x -> x.set(0, 0, 0L), LimitTables.UNKNOWN);
        });
        promise(4, "BAD_VALUE if it is refused;", () -> {
            for (long refused : REFUSED) {
                nothing("set to the bits " + refused, Boundaries::lived, x -> x.set(0, 4, refused),
                        LimitTables.BAD_VALUE);
            }
        });
        promise(4, "NONE if it is so already (the same bits).", () -> {
            for (double value : new double[] {1.0, 0.0, -0.0, 4.9E-324, -1.0E9}) {
                nothing("set " + value + " as it is", () -> with(value), x -> x.set(0, 0, bits(value)),
                        LimitTables.NONE);
            }
            act("set 0.0 to -0.0", () -> with(0.0), x -> x.set(0, 0, MINUS_ZERO), 0);
            act("set -0.0 to 0.0", () -> with(-0.0), x -> x.set(0, 0, 0L), 0);
            act("set 1.0 to -1.0", () -> with(1.0), x -> x.set(0, 0, bits(-1.0)), 0);
            act("set 1.0 to the next", () -> with(1.0), x -> x.set(0, 0, bits(Math.nextUp(1.0))), 0);
            act("set 0.0 to the least", () -> with(0.0), x -> x.set(0, 0, 1L), 0);
        });
    }

    private void sum() {
        promise(7, "Makes a row the sums of its numbers: each one with all ahead of it,", () -> {
            LimitTables x = both(new double[] {1.0, 2.0, -5.0, 0.5}, 7.0, 8.0);
            x.sum(0);
            dueRow("the row", x, 0, 1.0, 3.0, -2.0, -1.5);
            dueRow("the other row", x, 1, 7.0, 8.0);
            x = full();
            x.sum(0);
            due("a full row", x.count(0), 16);
        });
        promise(7, "added to 0.0 one behind the other.", () -> {
            LimitTables x = with(-0.0, -0.0);
            x.sum(0);
            dueRow("zeros below 0.0", x, 0, 0.0, 0.0);
            x = with(0.1, 0.2, 0.3, 1.0E9 - 1.0, -1.0E9 + 1.0);
            x.sum(0);
            double three = 0.1 + 0.2 + 0.3;
            differ("0.1, 0.2 and 0.3", three, 0.1 + (0.2 + 0.3));
            dueD("0.1, 0.2 and 0.3", x.number(0, 2), three);
            double all = three + (1.0E9 - 1.0) + (-1.0E9 + 1.0);
            differ("a great one between", all, three);
            dueD("a great one between", x.number(0, 4), all);
        });
        promise(7, "This is an act.", () -> {
            act("sum(0)", () -> with(1.0, 2.0), x -> x.sum(0), 2);
            act("sum(0) that leaves all as it was", () -> with(0.0, 0.0), x -> x.sum(0), 2);
        });
        promise(7, "`row`: 0 or 1", () -> {
            due("of 0", with(1.0).sum(0), 1);
            due("of 1", both(new double[0], 1.0).sum(1), 1);
        });
        promise(7, "Returns how many numbers it has;", () -> {
            for (int many = 1; many <= 16; many++) {
                LimitTables x = new LimitTables();
                x.fill(1, 0, many);
                due("of " + many, x.sum(1), many);
            }
        });
        promise(7, "UNKNOWN;", () -> {
            for (int row : NO_ROWS) {
                nothing("sum of " + row, Boundaries::lived, x -> x.sum(row), LimitTables.UNKNOWN);
            }
        });
    }

    private void sumRefused() {
        promise(7, "NOT_POSSIBLE if any sum would be refused;", () -> {
            double[][] refused = {{1.0E9, 1.0}, {-1.0E9, -1.0}, {1.0E9, 1.0E-7, -1.0E9}, {0.0, 1.0E9, 1.0, -1.0},
                {5.0E8, 5.000000000000002E8}, {-5.0E8, -5.000000000000002E8}, {1.0E9, 1.0E9, -1.0E9}};
            for (double[] numbers : refused) {
                nothing("sums beyond 1.0E9", () -> with(numbers), x -> x.sum(0), LimitTables.NOT_POSSIBLE);
            }
            double[][] good = {{5.0E8, 5.0E8}, {-5.0E8, -5.0E8}, {1.0E9, 5.0E-8}, {1.0E9, -1.0, 1.0}, {-1.0E9, 0.0}};
            for (double[] numbers : good) {
                due("sums at the edge of " + numbers[1], with(numbers).sum(0), numbers.length);
            }
            LimitTables x = with(1.0E9, 5.0E-8);
            x.sum(0);
            dueRow("a sum that is rounded to 1.0E9", x, 0, 1.0E9, 1.0E9);
        });
        promise(7, "NONE if the row is empty.", () -> {
            nothing("sum of an empty row", LimitTables::new, x -> x.sum(0), LimitTables.NONE);
            nothing("sum of an empty row beside one", Boundaries::full, x -> x.sum(1), LimitTables.NONE);
        });
    }

    private void differences() {
        promise(8, "Makes a row the differences of its numbers: each one less the one ahead of it;", () -> {
            LimitTables x = both(new double[] {1.0, 3.0, 7.0, 7.0, -1.0}, 4.0, 9.0);
            x.differences(0);
            dueRow("the row", x, 0, 1.0, 2.0, 4.0, 0.0, -8.0);
            dueRow("the other row", x, 1, 4.0, 9.0);
        });
        promise(8, "the first one stays.", () -> {
            for (double first : new double[] {-0.0, 0.0, 1.0E9, -1.0E9, 0.1}) {
                LimitTables x = with(first, 0.0);
                x.differences(0);
                dueRow("the row", x, 0, first, 0.0 - first);
                x = with(first);
                due("of one", x.differences(0), 1);
                dueRow("the row of one", x, 0, first);
            }
        });
        promise(8, "This is an act.", () -> {
            act("differences(0)", () -> with(1.0, 2.0), x -> x.differences(0), 2);
            act("differences(0) that leave all as it was", () -> with(7.0), x -> x.differences(0), 1);
        });
        promise(8, "`row`: 0 or 1", () -> {
            due("of 0", with(1.0).differences(0), 1);
            due("of 1", both(new double[0], 1.0).differences(1), 1);
        });
        promise(8, "Returns how many numbers it has;", () -> {
            for (int many = 1; many <= 16; many++) {
                LimitTables x = new LimitTables();
                x.fill(1, 0, many);
                due("of " + many, x.differences(1), many);
            }
        });
        promise(8, "UNKNOWN;", () -> {
            for (int row : NO_ROWS) {
                nothing("differences of " + row, Boundaries::lived, x -> x.differences(row), LimitTables.UNKNOWN);
            }
        });
        promise(8, "NOT_POSSIBLE if any difference would be refused;", () -> {
            double[][] refused = {{-1.0, 1.0E9}, {1.0E9, -1.0}, {0.0, 1.0E9, -1.0, 3.0}, {1.0, 2.0, -5.0E8, 6.0E8},
                {-1.0E9, 1.0E9}, {-5.0E8, 5.000000000000002E8}, {-1.0E-7, 1.0E9}};
            for (double[] numbers : refused) {
                nothing("differences beyond 1.0E9", () -> with(numbers), x -> x.differences(0),
                        LimitTables.NOT_POSSIBLE);
            }
            double[][] good = {{-5.0E8, 5.0E8}, {5.0E8, -5.0E8}, {0.0, 1.0E9}, {1.0E9, 0.0}, {-5.0E-8, 1.0E9}};
            for (double[] numbers : good) {
                due("differences at the edge of " + numbers[1], with(numbers).differences(0), 2);
            }
        });
        promise(8, "NONE if the row is empty.", () -> {
            nothing("differences of an empty row", LimitTables::new, x -> x.differences(0), LimitTables.NONE);
            nothing("differences of an empty row beside one", Boundaries::full, x -> x.differences(1),
                    LimitTables.NONE);
        });
    }

    private void number() {
        promise(17, "`row`: 0 or 1", () -> {
            LimitTables x = both(new double[] {1.0}, 2.0);
            dueD("of 0", x.number(0, 0), 1.0);
            dueD("of 1", x.number(1, 0), 2.0);
        });
        promise(17, "`place`: a place in it", () -> {
            LimitTables x = full();
            dueD("the first one", x.number(0, 0), 1.0);
            dueD("the last one of 16", x.number(0, 15), x.entry(0, 0, 0, 15));
            dueText("which is a number", String.valueOf(x.number(0, 15) > 1.5), "true");
            dueD("behind it", x.number(0, 16), NAN);
        });
        promise(17, "Returns the number;", () -> {
            LimitTables x = with(0.1, -0.0, -1.0E9);
            dueD("number 0", x.number(0, 0), 0.1);
            dueD("number 1", x.number(0, 1), -0.0);
            dueD("number 2", x.number(0, 2), -1.0E9);
        });
        promise(17, "a NaN for UNKNOWN (row or place).", () -> {
            for (int row : NO_ROWS) {
                nothing("number of " + row, Boundaries::lived, x -> x.number(row, 0), NAN);
            }
            for (int place : new int[] {-1, 3, 4, 15, 16, LEAST, MOST, 1 << 30}) {
                nothing("number at " + place, Boundaries::lived, x -> x.number(1, place), NAN);
            }
            dueD("number of an empty row", new LimitTables().number(0, 0), NAN);
            LimitTables x = with(1.0, 2.0);
            x.cut(0, 1);
            dueD("a number that was cut", x.number(0, 1), NAN);
        });
    }
}
