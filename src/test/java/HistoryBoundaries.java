import java.util.function.Supplier;
import java.util.function.ToDoubleFunction;

/** The history, the snapshot and errors: promises 14 to 16, and what holds for all. */
final class HistoryBoundaries extends Boundaries {
    HistoryBoundaries(Sentences sentences) {
        super(sentences);
    }

    @Override
    void all() {
        historyOfFour();
        whatIsRecorded();
        whatIsAState();
        undo();
        keep();
        restore();
        constants();
        orderOfErrors();
        errorsChangeNothing();
        answersChangeNothing();
    }

    /** An object with so many numbers in the row 0: 1.0, 2.0 and so on, one act each. */
    private static LimitTables acts(int many) {
        LimitTables x = new LimitTables();
        for (int act = 1; act <= many; act++) {
            x.add(0, bits(act));
        }
        return x;
    }

    private void historyOfFour() {
        term("HISTORY", "14, 27", "A history of at most 4 states is kept;", () -> {
            for (int many = 0; many <= 16; many++) {
                due("states after " + many + " acts", acts(many).count(4), Math.min(many, 4));
            }
        });
        term("HISTORY", "14", "when one more is recorded, the oldest one is dropped;", () -> {
            for (int many = 0; many <= 16; many++) {
                LimitTables x = acts(many);
                for (int left = Math.min(many, 4) - 1; left >= 0; left--) {
                    due("undo of " + many, x.undo(), left);
                }
                due("undo of " + many + " beyond", x.undo(), LimitTables.NONE);
                due("numbers after " + many, x.count(0), Math.max(0, many - 4));
            }
        });
        term("HISTORY", "14", "undo() removes and restores the latest one.", () -> {
            LimitTables x = acts(9);
            double[] rows = {9.0, 10.0, 9.0, 11.0, 12.0};
            for (int round = 0; round < 12; round++) {
                due("undo", x.undo(), 3);
                due("numbers", x.count(0), 8);
                due("an act again", x.add(0, bits(rows[round % 5])), 9);
                dueD("its number", x.number(0, 8), rows[round % 5]);
                due("states", x.count(4), 4);
            }
            x.undo();
            x.undo();
            due("two undone", x.count(0), 7);
            x.fill(1, 0, 2);
            x.fill(1, 0, 3);
            x.fill(1, 0, 4);
            due("states then", x.count(4), 4);
            int[] second = {3, 2, 0, 0};
            for (int i = 0; i < 4; i++) {
                due("undo " + i, x.undo(), 3 - i);
                due("numbers of 1", x.count(1), second[i]);
                due("numbers of 0", x.count(0), i < 3 ? 7 : 6);
            }
        });
    }

    private static void doAct(LimitTables x, int act) {
        switch (act) {
            case 0 -> x.add(0, bits(2.0));
            case 1 -> x.cut(0, 1);
            case 2 -> x.set(0, 0, bits(8.0));
            case 3 -> x.read(0);
            case 4 -> x.fill(0, 1, 2);
            case 5 -> x.sum(0);
            case 6 -> x.differences(1);
            case 7 -> x.take(0, 3, 0);
            case 8 -> x.setting(1, bits(5.0));
            case 9 -> x.bridge(true);
            default -> x.restore();
        }
    }

    private static LimitTables beforeActs() {
        LimitTables x = both(new double[] {1.0, 3.0}, 4.0);
        x.keep();
        return typed(x, "5,6,7");
    }

    private void whatIsRecorded() {
        term("HISTORY", "14", "Each call of a method that is described as an act,", () -> {
            for (int act = 0; act <= 10; act++) {
                LimitTables x = beforeActs();
                doAct(x, act);
                due("states after the act " + act, x.count(4), 4);
            }
            LimitTables x = beforeActs();
            x.keep();
            x.type('1');
            x.clearText();
            x.clearText();
            due("states after calls that are no acts", x.count(4), 3);
        });
        term("HISTORY", "14", "and returns no error and not NONE, records the state that was before it.", () -> {
            for (int act = 0; act <= 10; act++) {
                LimitTables x = beforeActs();
                String before = Probe.shallow(x);
                doAct(x, act);
                x.undo();
                dueText("before the act " + act, Probe.shallow(x), before);
            }
            LimitTables x = typed(both(new double[] {1.0, 3.0}, 4.0), "x");
            x.add(0, bits(NAN));
            x.cut(0, 3);
            x.set(0, 0, bits(1.0));
            x.read(0);
            x.fill(0, 5, 1);
            x.sum(2);
            x.differences(2);
            x.take(0, 0, 15);
            x.setting(1, bits(2.0));
            x.setting(1, bits(1.0));
            x.bridge(false);
            x.restore();
            due("states after errors and NONE", x.count(4), 3);
        });
    }

    private void whatIsAState() {
        term("HISTORY", "15, 16", "There is one snapshot, empty at first.", () -> {
            LimitTables x = new LimitTables();
            due("restore at first", x.restore(), LimitTables.NONE);
            addAll(x, 0, 1.0, 2.0, 3.0);
            due("restore without a snapshot", x.restore(), LimitTables.NONE);
            x.keep();
            x.cut(0, 2);
            x.keep();
            x.cut(0, 1);
            due("restore of the later one", x.restore(), 1);
            x.undo();
            x.undo();
            x.undo();
            due("and never of the first one", x.restore(), 1);
        });
        term("HISTORY", "14 to 16", "A state is everything but the text, the history and the snapshot.", () -> {
            LimitTables x = lived();
            String kept = Probe.shallow(x);
            x.keep();
            typed(x, "9");
            x.fill(0, 2, 3);
            x.cut(1, 2);
            x.setting(0, bits(0.5));
            x.setting(1, bits(9.0));
            x.setting(2, bits(-0.5));
            x.bridge(false);
            due("restore", x.restore(), 8);
            typed(x, "1,-2.5");
            dueText("rows, settings and bridging", Probe.shallow(x), kept);
            typed(x, "9,9");
            x.undo();
            due("undo brings bridging back", x.count(2), 0);
            dueD("and the guard", x.told(0), 0.5);
            dueD("and the ratio", x.told(1), 9.0);
            dueD("and the factor", x.told(2), -0.5);
            due("and the row 0", x.count(0), 3);
            due("and the row 1", x.count(1), 1);
            due("but not the text", x.count(5), 3);
            due("and not the snapshot", x.restore(), 8);
            due("nor does restore bring back the text", x.count(5), 3);
            due("nor the history", x.count(4), 4);
        });
    }

    private void undo() {
        promise(14, "Removes and restores the latest state of the history.", () -> {
            LimitTables x = acts(3);
            x.undo();
            dueRow("the row", x, 0, 1.0, 2.0);
            x.undo();
            dueRow("the row then", x, 0, 1.0);
            x.add(1, 0L);
            x.undo();
            dueRow("the row still", x, 0, 1.0);
            due("the other row", x.count(1), 0);
        });
        promise(14, "Returns the number of states that are left;", () -> {
            LimitTables x = acts(7);
            for (int left = 3; left >= 0; left--) {
                due("undo()", x.undo(), left);
                due("count(4)", x.count(4), left);
            }
        });
        promise(14, "NONE if the history is empty.", () -> {
            nothing("undo() at first", LimitTables::new, LimitTables::undo, LimitTables.NONE);
            nothing("undo() after all", () -> {
                LimitTables x = acts(6);
                for (int i = 0; i < 4; i++) {
                    x.undo();
                }
                return x;
            }, LimitTables::undo, LimitTables.NONE);
            LimitTables x = new LimitTables();
            x.undo();
            x.undo();
            x.add(0, 0L);
            due("undo() of one act after two undos of nothing", x.undo(), 0);
        });
    }

    private void keep() {
        promise(15, "Takes a snapshot of the state, in place of the one that was.", () -> {
            LimitTables x = both(new double[] {1.0, 2.0}, 3.0);
            x.keep();
            x.set(0, 0, bits(9.0));
            x.setting(1, bits(4.0));
            x.bridge(true);
            x.keep();
            x.fill(0, 0, 4);
            x.setting(1, bits(5.0));
            x.bridge(false);
            due("restore", x.restore(), 3);
            dueRow("the row 0", x, 0, 9.0, 2.0);
            dueRow("the row 1", x, 1, 3.0);
            dueD("the ratio", x.told(1), 4.0);
            due("bridging", x.count(2), 1);
            due("keep is no act", acts(2).keep() + acts(2).count(4), 2 + 2);
            x.keep();
            due("and records nothing", x.count(4), 4);
        });
        promise(15, "Returns how many numbers both rows have.", () -> {
            due("of empty rows", new LimitTables().keep(), 0);
            due("of one row", full().keep(), 16);
            due("of the other row", both(new double[0], 1.0, 2.0).keep(), 2);
            LimitTables x = full();
            x.fill(1, 0, 16);
            due("of full rows", x.keep(), 32);
        });
    }

    private void restore() {
        promise(16, "Restores the state of the snapshot,", () -> {
            LimitTables x = lived();
            due("restore()", x.restore(), 5);
            dueRow("the row 1", x, 1);
            dueD("the guard", x.told(0), 1.0E-10);
            dueD("the ratio", x.told(1), 3.0);
            due("bridging", x.count(2), 0);
            x = new LimitTables();
            x.keep();
            addAll(x, 0, 1.0);
            due("restore() of an empty state", x.restore(), 0);
            dueRow("the row 0", x, 0);
        });
        promise(16, "which stays.", () -> {
            LimitTables x = with(1.0, 2.0);
            x.keep();
            for (int round = 0; round < 6; round++) {
                x.set(0, 0, bits(7.0));
                x.add(0, bits(8.0));
                due("restore()", x.restore(), 2);
                dueRow("the row", x, 0, 1.0, 2.0);
            }
            x.cut(0, 2);
            x.undo();
            dueRow("the snapshot is not one of the history", x, 0, 1.0, 2.0);
        });
        promise(16, "This is an act.", () -> {
            Supplier<LimitTables> make = () -> {
                LimitTables x = with(1.0, 2.0);
                x.keep();
                x.cut(0, 1);
                return x;
            };
            act("restore()", make, LimitTables::restore, 2);
            act("restore() that leaves all as it was", () -> {
                LimitTables x = with(1.0, 2.0);
                x.keep();
                return x;
            }, LimitTables::restore, 2);
        });
        promise(16, "Returns how many numbers both rows have then;", () -> {
            LimitTables x = both(new double[] {1.0, 2.0, 3.0}, 4.0, 5.0);
            x.keep();
            x.cut(0, 3);
            due("restore()", x.restore(), 5);
            x = full();
            x.fill(1, 0, 16);
            x.keep();
            x.cut(1, 16);
            due("restore() of full rows", x.restore(), 32);
        });
        promise(16, "NONE if there is no snapshot.", () -> {
            nothing("restore() at first", LimitTables::new, LimitTables::restore, LimitTables.NONE);
            nothing("restore() after acts", () -> acts(5), LimitTables::restore, LimitTables.NONE);
        });
    }

    private void constants() {
        term("ERRORS", "1 to 27", "Errors are reported by the constants below.", () -> {
            due("add to 2", new LimitTables().add(2, 0L), -1);
            due("add of a NaN", new LimitTables().add(0, -1L), -2);
            due("add to a full row", full().add(0, 0L), -3);
            due("cut of an empty row", new LimitTables().cut(0, 1), -4);
            due("undo of nothing", new LimitTables().undo(), -5);
        });
        term("ERRORS", "1 to 27", "The constants: `UNKNOWN = -1`: There is no such row, table or place.",
                () -> due("UNKNOWN", LimitTables.UNKNOWN, -1));
        term("ERRORS", "1 to 27", "`BAD_VALUE = -2`: Another argument is out of range.",
                () -> due("BAD_VALUE", LimitTables.BAD_VALUE, -2));
        term("ERRORS", "1 to 27", "`FULL = -3`: There is no more room.", () -> due("FULL", LimitTables.FULL, -3));
        term("ERRORS", "1 to 27", "`NOT_POSSIBLE = -4`: This is not possible.",
                () -> due("NOT_POSSIBLE", LimitTables.NOT_POSSIBLE, -4));
        term("ERRORS", "1 to 27", "`NONE = -5`: There is no such thing; not an error.",
                () -> due("NONE", LimitTables.NONE, -5));
        untested("ERRORS", "Ahead of the calls `add`, `cut`, `set`, `read`, `fill`, `sum`, `differences`, `take` the "
                + "interface says: ---- rows.");
        untested("ERRORS", "Ahead of the calls `setting`, `bridge` the interface says: ---- settings.");
        untested("ERRORS", "Ahead of the calls `type`, `clearText` the interface says: ---- texts.");
        untested("ERRORS", "Ahead of the calls `undo`, `keep`, `restore` the interface says: ---- history.");
        untested("ERRORS", "Ahead of the calls `number`, `entry`, `kind`, `table`, `guess`, `error`, `spread`, `best`, "
                + "`needed`, `told`, `count` the interface says: ---- what is told.");
    }

    private void orderOfErrors() {
        term("ERRORS", "2 to 9, 20, 25", "Where several errors can apply, the order of the @return line is the order of the "
                + "checks.", () -> {
            due("add: UNKNOWN, BAD_VALUE", new LimitTables().add(2, bits(NAN)), LimitTables.UNKNOWN);
            due("add: BAD_VALUE, FULL", full().add(0, bits(NAN)), LimitTables.BAD_VALUE);
            due("cut: UNKNOWN, BAD_VALUE", new LimitTables().cut(2, 0), LimitTables.UNKNOWN);
            due("cut: UNKNOWN, NOT_POSSIBLE", new LimitTables().cut(2, 16), LimitTables.UNKNOWN);
            due("cut: BAD_VALUE, NOT_POSSIBLE", new LimitTables().cut(0, 17), LimitTables.BAD_VALUE);
            due("set: UNKNOWN row, BAD_VALUE", with(1.0).set(2, 0, bits(NAN)), LimitTables.UNKNOWN);
            due("set: UNKNOWN place, BAD_VALUE", with(1.0).set(0, 1, bits(NAN)), LimitTables.UNKNOWN);
            due("read: UNKNOWN, a fault", typed("x").read(2), LimitTables.UNKNOWN);
            due("read: UNKNOWN, FULL", typed(times("1,", 16) + "1").read(2), LimitTables.UNKNOWN);
            due("read: a fault, FULL", typed(times("1,", 20) + "x").read(0), -140);
            due("fill: UNKNOWN, BAD_VALUE series", new LimitTables().fill(2, 5, 1), LimitTables.UNKNOWN);
            due("fill: UNKNOWN, BAD_VALUE many", new LimitTables().fill(2, 0, 17), LimitTables.UNKNOWN);
            due("take: UNKNOWN row, BAD_VALUE", full().take(2, 0, 16), LimitTables.UNKNOWN);
            due("take: UNKNOWN table, BAD_VALUE", full().take(1, 4, 16), LimitTables.UNKNOWN);
            due("take: UNKNOWN table, NOT_POSSIBLE", full().take(0, 4, 0), LimitTables.UNKNOWN);
            due("take: BAD_VALUE, NOT_POSSIBLE", full().take(0, 0, 16), LimitTables.BAD_VALUE);
            due("table: UNKNOWN row, BAD_VALUE", full().table(2, 0, 5), LimitTables.UNKNOWN);
            due("table: UNKNOWN table, BAD_VALUE", full().table(0, 4, 5), LimitTables.UNKNOWN);
            due("needed: UNKNOWN row, BAD_VALUE", full().needed(2, 0, bits(NAN)), LimitTables.UNKNOWN);
            due("needed: UNKNOWN table, BAD_VALUE", full().needed(0, 4, bits(-1.0)), LimitTables.UNKNOWN);
        });
        term("ERRORS", "4, 7, 8, 10, 19, 20, 24, 25", "NONE is no error; it is returned only if no error applies.", () -> {
            due("set: UNKNOWN", with(1.0).set(2, 0, bits(1.0)), LimitTables.UNKNOWN);
            due("sum: UNKNOWN", new LimitTables().sum(2), LimitTables.UNKNOWN);
            due("differences: UNKNOWN", new LimitTables().differences(-1), LimitTables.UNKNOWN);
            LimitTables x = new LimitTables();
            x.setting(0, 0L);
            due("setting: BAD_VALUE for -0.0 at 0.0", x.setting(0, MINUS_ZERO), LimitTables.BAD_VALUE);
            due("setting: BAD_VALUE for what", x.setting(3, 0L), LimitTables.BAD_VALUE);
            due("kind: UNKNOWN row", x.kind(2, 0, 99, 99), LimitTables.UNKNOWN);
            due("kind: UNKNOWN table", x.kind(0, 4, 99, 99), LimitTables.UNKNOWN);
            due("table: UNKNOWN", x.table(2, 0, 3), LimitTables.UNKNOWN);
            due("table: BAD_VALUE", x.table(0, 0, 5), LimitTables.BAD_VALUE);
            due("best: UNKNOWN", x.best(2), LimitTables.UNKNOWN);
            due("needed: UNKNOWN", x.needed(2, 0, 0L), LimitTables.UNKNOWN);
            due("needed: BAD_VALUE", x.needed(0, 0, bits(-1.0)), LimitTables.BAD_VALUE);
        });
    }

    private void errorsChangeNothing() {
        term("ERRORS", "2 to 16", "A call that returns an error or NONE changes nothing.", () -> {
            Supplier<LimitTables> make = Boundaries::lived;
            nothing("add", make, x -> x.add(0, bits(NAN)), LimitTables.BAD_VALUE);
            nothing("cut", make, x -> x.cut(1, 4), LimitTables.NOT_POSSIBLE);
            nothing("set", make, x -> x.set(1, 0, bits(7.0)), LimitTables.NONE);
            nothing("read", () -> typed(lived(), "8,9,x"), x -> x.read(0), -104);
            nothing("fill", make, x -> x.fill(0, 0, 17), LimitTables.BAD_VALUE);
            nothing("sum", () -> with(1.0, 1.0E9), x -> x.sum(0), LimitTables.NOT_POSSIBLE);
            nothing("differences", () -> with(2.0, 3.0, -1.0E9), x -> x.differences(0), LimitTables.NOT_POSSIBLE);
            nothing("take", make, x -> x.take(0, 0, 3), LimitTables.NOT_POSSIBLE);
            nothing("setting", make, x -> x.setting(0, MINUS_ZERO), LimitTables.BAD_VALUE);
            nothing("bridge", make, x -> x.bridge(true), LimitTables.NONE);
            nothing("type", () -> typed(lived(), times("1", 60)), x -> x.type('1'), LimitTables.FULL);
            nothing("undo", LimitTables::new, LimitTables::undo, LimitTables.NONE);
            nothing("restore", () -> acts(5), LimitTables::restore, LimitTables.NONE);
        });
        term("ERRORS", "17, 18, 21 to 23, 26", "Methods that return a double return a NaN in their place.", () -> {
            LimitTables x = lived();
            dueD("number", x.number(2, 0), NAN);
            dueD("entry", x.entry(2, 0, 0, 0), NAN);
            dueD("guess", x.guess(2, 0), NAN);
            dueD("error", x.error(2, 0), NAN);
            dueD("spread", x.spread(2), NAN);
            dueD("told", x.told(3), NAN);
        });
    }

    private void answersChangeNothing() {
        term("HISTORY", "17 to 27", "Each call of a method that is described as an act", () -> {
            ask("number", x -> x.number(0, 0));
            ask("entry", x -> x.entry(0, 0, 2, 0));
            ask("kind", x -> x.kind(1, 2, 1, 0));
            for (int what = 0; what <= 4; what++) {
                int of = what;
                ask("table", x -> x.table(1, 0, of));
            }
            ask("guess", x -> x.guess(0, 2));
            ask("error", x -> x.error(0, 2));
            ask("spread", x -> x.spread(0));
            ask("best", x -> x.best(0));
            ask("needed", x -> x.needed(0, 0, bits(1.0)));
            ask("told", x -> x.told(1));
            for (int what = 0; what <= 5; what++) {
                int of = what;
                ask("count", x -> x.count(of));
            }
        });
    }

    /** Calls that only tell something are no acts: they change nothing, whatever they answer. */
    private void ask(String call, ToDoubleFunction<LimitTables> asked) {
        nothing(call, Boundaries::lived, asked, asked.applyAsDouble(lived()));
    }
}
