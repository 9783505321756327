/** Settings, bridging and counts: promises 10, 11, 26 and 27. */
final class SettingBoundaries extends Boundaries {
    private static final double[][] RANGES = {{0.0, 1.0}, {1.5, 10.0}, {-0.95, 0.95}};
    private static final double[] AT_FIRST = {1.0E-10, 2.0, 0.5};

    SettingBoundaries(Sentences sentences) {
        super(sentences);
    }

    @Override
    void all() {
        ranges();
        setting();
        settingRefused();
        bridge();
        bridgeAnswers();
        told();
        count();
        countAnswers();
    }

    /** The ends of a range are in it, and their neighbours outside are not. */
    private void range(int what) {
        double least = RANGES[what][0];
        double most = RANGES[what][1];
        LimitTables x = new LimitTables();
        dueD("the first value", x.told(what), AT_FIRST[what]);
        due("the least", x.setting(what, bits(least)), what);
        dueD("told", x.told(what), least);
        due("the greatest", x.setting(what, bits(most)), what);
        dueD("told then", x.told(what), most);
        due("a bit too small", x.setting(what, bits(Math.nextDown(least))), LimitTables.BAD_VALUE);
        due("a bit too great", x.setting(what, bits(Math.nextUp(most))), LimitTables.BAD_VALUE);
        due("a bit more than the least", x.setting(what, bits(Math.nextUp(least))), what);
        due("a bit less than the greatest", x.setting(what, bits(Math.nextDown(most))), what);
        dueD("told at last", x.told(what), Math.nextDown(most));
    }

    private void ranges() {
        term("SETTINGS", "10, 26", "The settings are (in parentheses: range; first value): 0 the guard (0.0 to 1.0; "
                + "1.0E-10),", () -> range(0));
        term("SETTINGS", "10, 26", "1 the ratio (1.5 to 10.0; 2.0),", () -> range(1));
        term("SETTINGS", "10, 26", "2 the factor (-0.95 to 0.95; 0.5).", () -> range(2));
        term("SETTINGS", "11, 27", "Bridging is on or off (at first off).", () -> {
            LimitTables x = new LimitTables();
            due("at first", x.count(2), 0);
            due("on", x.bridge(true), 0);
            due("then", x.count(2), 1);
            due("off", x.bridge(false), 0);
            due("at last", x.count(2), 0);
        });
    }

    private void setting() {
        promise(10, "Sets a setting.", () -> {
            LimitTables x = new LimitTables();
            x.setting(0, bits(0.25));
            x.setting(1, bits(4.0));
            x.setting(2, bits(0.0));
            dueD("the guard", x.told(0), 0.25);
            dueD("the ratio", x.told(1), 4.0);
            dueD("the factor", x.told(2), 0.0);
            addAll(x, 0, 0.0, 0.25, 3.0);
            due("the guard is used", x.kind(0, 0, 1, 0), 2);
            dueD("the ratio is used", x.entry(0, 3, 1, 1), 3.0 + 2.75 / 3.0);
            x.fill(1, 3, 2);
            dueRow("the factor is used", x, 1, 1.0, 1.0);
        });
        promise(10, "This is an act.", () -> {
            for (int what = 0; what <= 2; what++) {
                int of = what;
                act("setting " + what, LimitTables::new, x -> x.setting(of, bits(RANGES[of][1])), what);
            }
        });
        promise(10, "`what`: 0 to 2", () -> {
            due("0", new LimitTables().setting(0, bits(0.75)), 0);
            due("1", new LimitTables().setting(1, bits(1.75)), 1);
            due("2", new LimitTables().setting(2, bits(0.75)), 2);
            due("3", new LimitTables().setting(3, bits(0.75)), LimitTables.BAD_VALUE);
            due("-1", new LimitTables().setting(-1, bits(0.75)), LimitTables.BAD_VALUE);
        });
        promise(10, "`bits`: a number in its range", () -> {
            LimitTables x = new LimitTables();
            due("in the range of the guard alone", x.setting(0, bits(1.0)), 0);
            due("not in that of the ratio", x.setting(1, bits(1.0)), LimitTables.BAD_VALUE);
            due("not in that of the factor", x.setting(2, bits(1.0)), LimitTables.BAD_VALUE);
            due("in that of the factor alone", x.setting(2, bits(-0.5)), 2);
            due("not in that of the guard", x.setting(0, bits(-0.5)), LimitTables.BAD_VALUE);
        });
        promise(10, "Returns what;", () -> {
            LimitTables x = new LimitTables();
            for (int what = 0; what <= 2; what++) {
                due("setting " + what, x.setting(what, bits(RANGES[what][0])), what);
            }
        });
    }

    private void settingRefused() {
        promise(10, "BAD_VALUE (also for a NaN, and for -0.0);", () -> {
            long[] nans = {bits(NAN), 0x7FF0000000000001L, 0xFFF0000000000001L, 0x7FFFFFFFFFFFFFFFL, -1L};
            for (int what = 0; what <= 2; what++) {
                int of = what;
                for (long nan : nans) {
                    nothing("a NaN", Boundaries::lived, x -> x.setting(of, nan), LimitTables.BAD_VALUE);
                }
                nothing("-0.0", Boundaries::lived, x -> x.setting(of, MINUS_ZERO), LimitTables.BAD_VALUE);
                for (double value : new double[] {Math.nextDown(RANGES[of][0]), Math.nextUp(RANGES[of][1]), INFINITE,
                    -INFINITE, Double.MAX_VALUE, -Double.MAX_VALUE}) {
                    nothing("setting " + value, Boundaries::lived, x -> x.setting(of, bits(value)),
                            LimitTables.BAD_VALUE);
                }
            }
            for (int what : new int[] {-1, 3, LEAST, MOST, 256}) {
                nothing("setting " + what, Boundaries::lived, x -> x.setting(what, bits(0.5)), LimitTables.BAD_VALUE);
                dueD("0.0 is no -0.0", new LimitTables().setting(2, 0L), 2);
            }
        });
        promise(10, "NONE if it is so already.", () -> {
            for (int what = 0; what <= 2; what++) {
                int of = what;
                nothing("as at first", LimitTables::new, x -> x.setting(of, bits(AT_FIRST[of])), LimitTables.NONE);
                act("a bit more", LimitTables::new, x -> x.setting(of, bits(Math.nextUp(AT_FIRST[of]))), of);
                LimitTables x = new LimitTables();
                x.setting(of, bits(RANGES[of][1]));
                due("as it was set", x.setting(of, bits(RANGES[of][1])), LimitTables.NONE);
                due("as at first again", x.setting(of, bits(AT_FIRST[of])), of);
            }
            LimitTables x = new LimitTables();
            x.setting(0, 0L);
            due("0.0 again", x.setting(0, 0L), LimitTables.NONE);
        });
    }

    private void bridge() {
        promise(11, "Sets bridging.", () -> {
            LimitTables x = with(1.0, 1.0);
            due("broken at first", x.kind(0, 0, 1, 0), 2);
            x.bridge(true);
            due("bridged then", x.kind(0, 0, 1, 0), 1);
            x.bridge(false);
            due("broken at last", x.kind(0, 0, 1, 0), 2);
        });
        promise(11, "This is an act.", () -> act("bridge(true)", () -> with(1.0, 1.0), x -> x.bridge(true), 0));
        promise(11, "`on`: whether it is on then", () -> {
            LimitTables x = new LimitTables();
            x.bridge(true);
            due("bridge(true)", x.count(2), 1);
            x.bridge(false);
            due("bridge(false)", x.count(2), 0);
        });
    }

    private void bridgeAnswers() {
        promise(11, "Returns how many entries of the tables of both rows are broken then;", () -> {
            LimitTables x = both(new double[] {1.0, 1.0, 1.0}, 2.0, 2.0);
            due("on: none", x.bridge(true), 0);
            due("off: of both rows", x.bridge(false), 3 + 3 + 1 + 1 + 1);
            x = both(new double[] {1.0}, 2.0, 2.0);
            x.bridge(true);
            due("off: of the row 1 alone", x.bridge(false), 2);
            x = both(new double[] {2.0, 2.0}, 1.0);
            x.bridge(true);
            due("off: of the row 0 alone", x.bridge(false), 2);
            x = both(new double[] {0.0, 4.9E-324}, 0.0, 4.9E-324);
            x.setting(0, 0L);
            due("on: those that are not finite", x.bridge(true), 4);
            x = new LimitTables();
            due("empty rows", x.bridge(true), 0);
            x = new LimitTables();
            for (int i = 0; i < 16; i++) {
                addAll(x, 0, 3.0);
                addAll(x, 1, 3.0);
            }
            x.bridge(true);
            due("off: full rows", x.bridge(false), 2 * (120 + 120 + 56));
        });
        promise(11, "NONE if it is so already.", () -> {
            nothing("off at first", LimitTables::new, x -> x.bridge(false), LimitTables.NONE);
            nothing("on as it is", Boundaries::lived, x -> x.bridge(true), LimitTables.NONE);
            LimitTables x = new LimitTables();
            x.bridge(true);
            x.undo();
            due("on again after undo", x.bridge(true), 0);
        });
    }

    private void told() {
        promise(26, "`what`: 0 to 2", () -> {
            LimitTables x = new LimitTables();
            for (int what = 0; what <= 2; what++) {
                dueD("told(" + what + ")", x.told(what), AT_FIRST[what]);
            }
        });
        promise(26, "Returns the setting;", () -> {
            LimitTables x = new LimitTables();
            for (int what = 0; what <= 2; what++) {
                for (double value : RANGES[what]) {
                    x.setting(what, bits(value));
                    dueD("told(" + what + ")", x.told(what), value);
                }
            }
        });
        promise(26, "a NaN for BAD_VALUE.", () -> {
            for (int what : new int[] {-1, 3, 4, LEAST, MOST, 256}) {
                nothing("told(" + what + ")", Boundaries::lived, x -> x.told(what), NAN);
            }
        });
    }

    private void count() {
        promise(27, "`what`: 0 for the numbers of the row 0,", () -> {
            due("of an empty row", new LimitTables().count(0), 0);
            due("of a full row", full().count(0), 16);
            due("of the row 0 alone", both(new double[] {1.0, 2.0}, 3.0).count(0), 2);
        });
        promise(27, "1 for those of the row 1,", () -> {
            due("of an empty row", full().count(1), 0);
            due("of the row 1 alone", both(new double[] {1.0, 2.0}, 3.0).count(1), 1);
        });
        promise(27, "2 for whether bridging is on (1, otherwise 0),", () -> {
            LimitTables x = new LimitTables();
            due("off", x.count(2), 0);
            x.bridge(true);
            due("on", x.count(2), 1);
        });
        promise(27, "3 for the entries of all tables of both rows that are broken,", () -> {
            due("of empty rows", new LimitTables().count(3), 0);
            LimitTables x = both(new double[] {1.0, 1.0, 1.0}, 2.0, 2.0);
            due("by their own divisors and by others", x.count(3), 3 + 3 + 1 + 1 + 1);
            x.setting(0, bits(1.0));
            due("of the table 3 too", x.count(3), 3 + 3 + 1 + 3 + 1 + 1 + 1);
            x.bridge(true);
            due("bridged ones are not", x.count(3), 0);
            x = with(0.0, 4.9E-324);
            x.setting(0, 0L);
            x.bridge(true);
            due("those that are not finite", x.count(3), 2);
        });
        promise(27, "4 for the states in the history,", () -> {
            LimitTables x = new LimitTables();
            for (int act = 0; act <= 6; act++) {
                due("after " + act + " acts", x.count(4), Math.min(act, 4));
                addAll(x, 0, 1.0);
            }
        });
        promise(27, "5 for the length of the text", () -> {
            LimitTables x = new LimitTables();
            for (int length = 0; length <= 60; length++) {
                due("of " + length, x.count(5), length);
                x.type('1');
            }
            x.type('1');
            due("of a full one", x.count(5), 60);
            x.clearText();
            due("of an empty one", x.count(5), 0);
        });
    }

    private void countAnswers() {
        promise(27, "Returns the number;", () -> {
            LimitTables x = lived();
            long[] wanted = {5, 3, 1, 0, 4, 6};
            for (int what = 0; what <= 5; what++) {
                due("count(" + what + ")", x.count(what), wanted[what]);
            }
        });
        promise(27, "BAD_VALUE.", () -> {
            for (int what : new int[] {-1, 6, 7, LEAST, MOST, 256}) {
                nothing("count(" + what + ")", Boundaries::lived, x -> x.count(what), LimitTables.BAD_VALUE);
            }
        });
    }
}
