/** Each promise of the document with ordinary inputs, the edges that it names, and wrong inputs. */
final class PromiseTests {
    private static final Checks CHECKS = new Checks();
    private static final double NAN = Double.NaN;
    private static final double INFINITE = Double.POSITIVE_INFINITY;

    public static void main(String[] args) {
        promise1NewObject();
        promise2Add();
        promise3Cut();
        promise4Set();
        promise5Read();
        promise5ReadFaults();
        promise6Fill();
        promise7Sum();
        promise8Differences();
        promise9Take();
        promise10Setting();
        promise11Bridge();
        promise12And13Text();
        promise14Undo();
        promise15And16Snapshot();
        promise17Number();
        promise18Entry();
        promise18EntryOfEachTable();
        promise19Kind();
        promise20Table();
        promise21And22Guess();
        promise23Spread();
        promise24Best();
        promise25Needed();
        promise26Told();
        promise27Count();
        acts();
        CHECKS.end("PromiseTests");
    }

    private static void due(String what, long got, long want) {
        CHECKS.due(what, got, want);
    }

    private static void dueD(String what, double got, double want) {
        CHECKS.dueD(what, got, want);
    }

    private static long bits(double value) {
        return Double.doubleToRawLongBits(value);
    }

    private static LimitTables with(double... numbers) {
        LimitTables x = new LimitTables();
        addAll(x, 0, numbers);
        return x;
    }

    private static void addAll(LimitTables x, int row, double... numbers) {
        for (double value : numbers) {
            x.add(row, bits(value));
        }
    }

    private static void typeAll(LimitTables x, String text) {
        x.clearText();
        for (int i = 0; i < text.length(); i++) {
            x.type(text.charAt(i));
        }
    }

    private static void dueRow(String what, LimitTables x, int row, double... numbers) {
        due(what + ": length", x.count(row), numbers.length);
        for (int i = 0; i < numbers.length; i++) {
            dueD(what + ": number " + i, x.number(row, i), numbers[i]);
        }
    }

    private static void promise1NewObject() {
        LimitTables x = new LimitTables();
        dueRow("new, row 0", x, 0);
        dueRow("new, row 1", x, 1);
        dueD("new guard", x.told(0), 1.0E-10);
        dueD("new ratio", x.told(1), 2.0);
        dueD("new factor", x.told(2), 0.5);
        for (int what = 2; what <= 5; what++) {
            due("new count " + what, x.count(what), 0);
        }
        due("new undo", x.undo(), LimitTables.NONE);
        due("new restore", x.restore(), LimitTables.NONE);
        due("UNKNOWN", LimitTables.UNKNOWN, -1);
        due("BAD_VALUE", LimitTables.BAD_VALUE, -2);
        due("FULL", LimitTables.FULL, -3);
        due("NOT_POSSIBLE", LimitTables.NOT_POSSIBLE, -4);
        due("NONE", LimitTables.NONE, -5);
    }

    private static void promise2Add() {
        LimitTables x = new LimitTables();
        due("add to 2", x.add(2, bits(1.0)), LimitTables.UNKNOWN);
        due("add NaN to -1", x.add(-1, bits(NAN)), LimitTables.UNKNOWN);
        double[] refused = {NAN, INFINITE, -INFINITE, Math.nextUp(1.0E9), Math.nextDown(-1.0E9), Double.MAX_VALUE};
        for (double value : refused) {
            due("add " + value, x.add(0, bits(value)), LimitTables.BAD_VALUE);
        }
        due("add of another NaN", x.add(0, 0xFFF0000000000001L), LimitTables.BAD_VALUE);
        double[] taken = {1.0E9, -1.0E9, 0.0, -0.0, 4.9E-324, -4.9E-324, 2.2250738585072014E-308,
            2.225073858507201E-308, 0.1, -1.0 / 3.0, 1.0E-200, 123456.789, 1.0, Math.nextDown(1.0), 3.0E-310};
        for (int i = 0; i < taken.length; i++) {
            due("add " + taken[i], x.add(0, bits(taken[i])), i + 1);
        }
        dueRow("added", x, 0, taken);
        due("add the last one", x.add(0, bits(16.0)), 16);
        due("add to a full row", x.add(0, bits(17.0)), LimitTables.FULL);
        due("add NaN to a full row", x.add(0, bits(NAN)), LimitTables.BAD_VALUE);
        due("add to the other row", x.add(1, bits(5.0)), 1);
        due("numbers of row 0", x.count(0), 16);
    }

    private static void promise3Cut() {
        LimitTables x = with(1.0, 2.0, 3.0, 4.0, 5.0);
        due("cut of 2", x.cut(2, 0), LimitTables.UNKNOWN);
        due("cut by 0", x.cut(0, 0), LimitTables.BAD_VALUE);
        due("cut by -1", x.cut(0, -1), LimitTables.BAD_VALUE);
        due("cut by 17", x.cut(0, 17), LimitTables.BAD_VALUE);
        due("cut by 16", x.cut(0, 16), LimitTables.NOT_POSSIBLE);
        due("cut by 6", x.cut(0, 6), LimitTables.NOT_POSSIBLE);
        due("cut of an empty row", x.cut(1, 1), LimitTables.NOT_POSSIBLE);
        due("cut by 2", x.cut(0, 2), 3);
        dueRow("cut", x, 0, 1.0, 2.0, 3.0);
        due("cut by all", x.cut(0, 3), 0);
        due("fill", x.fill(1, 0, 16), 16);
        due("cut by 16", x.cut(1, 16), 0);
    }

    private static void promise4Set() {
        LimitTables x = with(1.0, 0.0, 3.0);
        due("set in 2", x.set(2, 0, bits(1.0)), LimitTables.UNKNOWN);
        due("set at 3", x.set(0, 3, bits(NAN)), LimitTables.UNKNOWN);
        due("set at -1", x.set(0, -1, bits(1.0)), LimitTables.UNKNOWN);
        due("set at 0 in an empty row", x.set(1, 0, bits(1.0)), LimitTables.UNKNOWN);
        due("set NaN", x.set(0, 0, bits(NAN)), LimitTables.BAD_VALUE);
        due("set too great", x.set(0, 0, bits(Math.nextUp(1.0E9))), LimitTables.BAD_VALUE);
        due("set as it is", x.set(0, 0, bits(1.0)), LimitTables.NONE);
        due("set a zero as it is", x.set(0, 1, bits(0.0)), LimitTables.NONE);
        due("set the other zero", x.set(0, 1, bits(-0.0)), 1);
        due("set the other zero as it is", x.set(0, 1, bits(-0.0)), LimitTables.NONE);
        dueD("the other zero", x.number(0, 1), -0.0);
        due("set the first zero", x.set(0, 1, bits(0.0)), 1);
        due("set the last one", x.set(0, 2, bits(-1.0E9)), 2);
        dueRow("set", x, 0, 1.0, 0.0, -1.0E9);
    }

    private static void promise5Read() {
        LimitTables x = with(9.0, 9.0, 9.0);
        typeAll(x, "12.5,-0.25,999999.999999,-0,0.000001,7");
        due("read", x.read(0), 6);
        dueRow("read", x, 0, 12.5, -0.25, 999999.999999, 0.0, 0.000001, 7.0);
        due("the text stays", x.count(5), 38);
        due("read into 1", x.read(1), 6);
        due("read into 2", x.read(2), LimitTables.UNKNOWN);
        typeAll(x, "0,1,2,3,4,5,6,7,8,9,0,1,2,3,4,5");
        due("read 16", x.read(0), 16);
        x.type(',');
        x.type('6');
        due("read 17", x.read(1), LimitTables.FULL);
        due("what was stays", x.count(1), 6);
        x.type('a');
        due("a fault before FULL", x.read(1), -133);
        due("the row before a fault", x.read(-1), LimitTables.UNKNOWN);
        typeAll(x, "0,1,2,3,4,5,6,7,8,9,0,1,2,3,4,5,6,7,8,9,0,1,2,3,4,5,6,7,8,10");
        due("60 characters", x.count(5), 60);
        due("read 60 characters", x.read(1), LimitTables.FULL);
    }

    private static void promise5ReadFaults() {
        String[] texts = {"", "-", "1,", "1.", "00", "01", "-01", "1234567", "1.1234567", ".5", "-.5", "+1", "1..2",
            "1.,2", "1,,2", ",1", "--1", "1-2", "1 ", "1.2.3", "1,2,", "123456.123456,x", "1,-", "0.0.", "1/2", "1:2",
            "\u06611", "1,\uffff", "-1.5,-,2"};
        int[] faults = {0, 1, 2, 2, 1, 1, 2, 6, 8, 0, 1, 0, 2,
            2, 2, 0, 1, 1, 1, 3, 4, 14, 3, 3, 1, 1,
            0, 2, 6};
        LimitTables x = with(9.0);
        for (int i = 0; i < texts.length; i++) {
            typeAll(x, texts[i]);
            due("read of '" + texts[i] + "'", x.read(0), -100 - faults[i]);
        }
        dueRow("after faults", x, 0, 9.0);
        due("history after faults", x.count(4), 1);
        typeAll(x, "0,1,2,3,4,5,6,7,8,9,0,1,2,3,4,5,6,7,8,9,0,1,2,3,4,5,6,7,8,9,");
        due("a fault at the end", x.read(0), -160);
    }

    private static void promise6Fill() {
        LimitTables x = with(9.0);
        due("fill of 2", x.fill(2, 9, 9), LimitTables.UNKNOWN);
        due("fill with -1", x.fill(0, -1, 3), LimitTables.BAD_VALUE);
        due("fill with 5", x.fill(0, 5, 3), LimitTables.BAD_VALUE);
        due("fill 0", x.fill(0, 0, 0), LimitTables.BAD_VALUE);
        due("fill 17", x.fill(0, 0, 17), LimitTables.BAD_VALUE);
        due("fill with 0", x.fill(0, 0, 3), 3);
        dueRow("series 0", x, 0, 1.0, 1.25, 1.25 + 1.0 / 9.0);
        due("fill with 1", x.fill(0, 1, 4), 4);
        dueRow("series 1", x, 0, 1.0, 0.5, 0.5 + 1.0 / 3.0, 0.5 + 1.0 / 3.0 - 0.25);
        due("fill with 2", x.fill(0, 2, 4), 4);
        double third = 1.0 - 1.0 / 3.0 + 1.0 / 5.0;
        dueRow("series 2", x, 0, 1.0, 1.0 - 1.0 / 3.0, third, third - 1.0 / 7.0);
        due("fill with 3", x.fill(0, 3, 4), 4);
        dueRow("series 3", x, 0, 1.0, 1.5, 1.75, 1.875);
        due("fill with 4", x.fill(1, 4, 3), 3);
        dueRow("series 4", x, 1, 1.0, 1.25, 1.25 + 0.25 / 3.0);
        x.setting(2, bits(-0.5));
        due("fill with 3 again", x.fill(0, 3, 16), 16);
        dueD("a term below 0", x.number(0, 1), 0.5);
        dueD("and the next", x.number(0, 2), 0.75);
        due("fill with 4 again", x.fill(0, 4, 1), 1);
        dueRow("one sum", x, 0, 1.0);
    }

    private static void promise7Sum() {
        LimitTables x = with(1.0, 2.0, -5.0);
        due("sum of 2", x.sum(2), LimitTables.UNKNOWN);
        due("sum of nothing", x.sum(1), LimitTables.NONE);
        due("sum", x.sum(0), 3);
        dueRow("sum", x, 0, 1.0, 3.0, -2.0);
        x = with(-0.0, -0.0);
        due("sum of zeros", x.sum(0), 2);
        dueRow("sum of zeros", x, 0, 0.0, 0.0);
        x = with(1.0E9, 0.0, 1.0, -1.0E9);
        due("a sum in the middle is refused", x.sum(0), LimitTables.NOT_POSSIBLE);
        dueRow("not summed", x, 0, 1.0E9, 0.0, 1.0, -1.0E9);
        due("no act", x.count(4), 4);
        x = with(-1.0E9, -1.0E-3);
        due("a sum below is refused", x.sum(0), LimitTables.NOT_POSSIBLE);
        x = with(5.0E8, 5.0E8);
        due("a sum at the edge", x.sum(0), 2);
    }

    private static void promise8Differences() {
        LimitTables x = with(-0.0, 2.0, 7.0, 7.0);
        due("differences of -1", x.differences(-1), LimitTables.UNKNOWN);
        due("differences of nothing", x.differences(1), LimitTables.NONE);
        due("differences", x.differences(0), 4);
        dueRow("differences", x, 0, -0.0, 2.0, 5.0, 0.0);
        x = with(1.0, 1.0E9, -1.0, 3.0);
        due("a difference is refused", x.differences(0), LimitTables.NOT_POSSIBLE);
        dueRow("no differences", x, 0, 1.0, 1.0E9, -1.0, 3.0);
        x = with(-5.0E8, 5.0E8);
        due("a difference at the edge", x.differences(0), 2);
        dueRow("at the edge", x, 0, -5.0E8, 1.0E9);
    }

    private static void promise9Take() {
        LimitTables x = with(1.0, 1.5, 1.5, 2.0, 4.0);
        due("take into 2", x.take(2, 0, 16), LimitTables.UNKNOWN);
        due("take of 4", x.take(1, 4, 16), LimitTables.UNKNOWN);
        due("take of -1", x.take(1, -1, 0), LimitTables.UNKNOWN);
        due("take of 16", x.take(1, 0, 16), LimitTables.BAD_VALUE);
        due("take of column -1", x.take(1, 0, -1), LimitTables.BAD_VALUE);
        due("take of an empty row", x.take(0, 0, 0), LimitTables.NOT_POSSIBLE);
        due("take of no column", x.take(1, 0, 5), LimitTables.NOT_POSSIBLE);
        due("take of column 15", x.take(1, 3, 15), LimitTables.NOT_POSSIBLE);
        due("take, one broken", x.take(1, 0, 1), 3);
        dueRow("taken", x, 1, 2.0, 2.0, 0.5);
        x.bridge(true);
        due("take, one bridged", x.take(1, 0, 1), 4);
        dueRow("taken", x, 1, 2.0, 0.0, 2.0, 0.5);
        due("take of column 0", x.take(1, 2, 0), 5);
        due("the other way", x.take(0, 3, 4), 1);
        x = with(0.0, 9.0E-10, 1.0E-9 + 9.0E-10);
        x.setting(0, bits(0.0));
        due("take, one too great", x.take(1, 0, 1), 1);
        dueD("the other", x.number(1, 0), 1.0 / (1.0E-9 + 9.0E-10 - 9.0E-10));
        x = with(0.0, 4.9E-324, 1.0E-300);
        x.setting(0, 0L);
        due("take, all too great or not finite", x.take(1, 0, 1), LimitTables.NOT_POSSIBLE);
        due("no act", x.count(4), 4);
    }

    private static void promise10Setting() {
        LimitTables x = new LimitTables();
        double[][] good = {{0.0, 1.0, 4.9E-324, 1.0E-10}, {1.5, 10.0, 2.0}, {-0.95, 0.95, 0.0, 0.5}};
        double[][] bad = {{Math.nextUp(1.0), -0.0, -4.9E-324, NAN, INFINITE, -INFINITE},
            {Math.nextDown(1.5), Math.nextUp(10.0), -0.0, -2.0, NAN, INFINITE},
            {Math.nextDown(-0.95), Math.nextUp(0.95), -0.0, NAN, INFINITE, -INFINITE}};
        for (int what = 0; what < 3; what++) {
            for (double value : bad[what]) {
                due("setting " + what + " to " + value, x.setting(what, bits(value)), LimitTables.BAD_VALUE);
            }
            for (double value : good[what]) {
                due("setting " + what + " to " + value, x.setting(what, bits(value)), what);
                dueD("told " + what, x.told(what), value);
                due("setting " + what + " again", x.setting(what, bits(value)), LimitTables.NONE);
            }
        }
        due("setting 3", x.setting(3, bits(0.5)), LimitTables.BAD_VALUE);
        due("setting -1", x.setting(-1, bits(0.5)), LimitTables.BAD_VALUE);
        x.setting(2, 0L);
        due("setting 2 from 0.0 to -0.0", x.setting(2, bits(-0.0)), LimitTables.BAD_VALUE);
    }

    private static void promise11Bridge() {
        LimitTables x = new LimitTables();
        due("bridge off at first", x.bridge(false), LimitTables.NONE);
        addAll(x, 0, 1.0, 1.0, 1.0);
        addAll(x, 1, 2.0, 2.0);
        due("broken at first", x.count(3), 3 + 3 + 1 + 1 + 1);
        due("bridge on", x.bridge(true), 0);
        due("bridge on again", x.bridge(true), LimitTables.NONE);
        due("bridge off", x.bridge(false), 9);
        due("history", x.count(4), 4);
        x = with(0.0, 4.9E-324);
        x.setting(0, 0L);
        due("not finite stays broken", x.bridge(true), 2);
    }

    private static void promise12And13Text() {
        LimitTables x = new LimitTables();
        due("clear an empty text", x.clearText(), 0);
        char[] any = {'1', (char) 0, (char) 255, (char) 256, (char) 65535};
        for (int i = 0; i < 60; i++) {
            due("type " + i, x.type(any[i % any.length]), i + 1);
        }
        due("type into a full text", x.type('1'), LimitTables.FULL);
        due("length", x.count(5), 60);
        due("clear", x.clearText(), 60);
        due("length", x.count(5), 0);
        due("no act", x.count(4), 0);
        due("an empty text", x.read(0), -100);
    }

    private static void promise14Undo() {
        LimitTables x = new LimitTables();
        due("undo nothing", x.undo(), LimitTables.NONE);
        for (int i = 1; i <= 6; i++) {
            x.add(0, bits(i));
        }
        x.type('7');
        x.keep();
        due("four states", x.count(4), 4);
        for (int i = 3; i >= 0; i--) {
            due("undo", x.undo(), i);
            due("numbers", x.count(0), 2 + i);
        }
        due("undo beyond", x.undo(), LimitTables.NONE);
        dueRow("after all", x, 0, 1.0, 2.0);
        due("the text is not undone", x.count(5), 1);
        due("nor is the snapshot", x.restore(), 6);
        x.setting(0, bits(0.5));
        x.bridge(true);
        x.set(0, 0, bits(-0.0));
        due("undo set", x.undo(), 3);
        dueD("first", x.number(0, 0), 1.0);
        due("undo bridge", x.undo(), 2);
        due("bridging", x.count(2), 0);
        due("undo setting", x.undo(), 1);
        dueD("guard", x.told(0), 1.0E-10);
        due("undo restore", x.undo(), 0);
        dueRow("before restore", x, 0, 1.0, 2.0);
    }

    private static void promise15And16Snapshot() {
        LimitTables x = new LimitTables();
        due("restore nothing", x.restore(), LimitTables.NONE);
        due("keep nothing", x.keep(), 0);
        addAll(x, 0, 1.0, 2.0);
        addAll(x, 1, 3.0);
        due("restore the empty one", x.restore(), 0);
        due("undo it", x.undo(), 3);
        x.setting(1, bits(3.0));
        x.bridge(true);
        due("keep three", x.keep(), 3);
        due("keep is no act", x.count(4), 4);
        x.cut(0, 2);
        x.set(1, 0, bits(4.0));
        x.setting(1, bits(4.0));
        x.bridge(false);
        x.type('1');
        due("restore three", x.restore(), 3);
        dueRow("row 0", x, 0, 1.0, 2.0);
        dueRow("row 1", x, 1, 3.0);
        dueD("ratio", x.told(1), 3.0);
        due("bridging", x.count(2), 1);
        due("text", x.count(5), 1);
        due("restore again", x.restore(), 3);
        due("it is an act", x.undo(), 3);
        due("and the one before", x.undo(), 2);
        dueD("ratio before", x.told(1), 4.0);
        x.add(0, bits(8.0));
        due("the snapshot is no one's row", x.restore(), 3);
    }

    private static void promise17Number() {
        LimitTables x = with(-0.0, 5.5);
        dueD("number 0", x.number(0, 0), -0.0);
        dueD("number 1", x.number(0, 1), 5.5);
        dueD("number 2", x.number(0, 2), NAN);
        dueD("number -1", x.number(0, -1), NAN);
        dueD("number of 2", x.number(2, 0), NAN);
        dueD("number of -1", x.number(-1, 0), NAN);
        dueD("number of an empty row", x.number(1, 0), NAN);
        dueD("number far", x.number(0, Integer.MAX_VALUE), NAN);
        x.cut(0, 1);
        dueD("number cut away", x.number(0, 1), NAN);
    }

    private static void promise18Entry() {
        LimitTables x = with(1.0, 2.0, 2.0, 6.0);
        dueD("of row 2", x.entry(2, 0, 0, 0), NAN);
        dueD("of table 4", x.entry(0, 4, 0, 0), NAN);
        dueD("of table -1", x.entry(0, -1, 0, 0), NAN);
        dueD("column 0", x.entry(0, 0, 0, 3), 6.0);
        dueD("behind the row", x.entry(0, 0, 0, 4), NAN);
        dueD("column -1", x.entry(0, 0, -1, 1), NAN);
        dueD("place -1", x.entry(0, 0, 1, -1), NAN);
        dueD("far column", x.entry(0, 0, Integer.MAX_VALUE, Integer.MAX_VALUE), NAN);
        dueD("far column of table 2", x.entry(0, 2, 1 << 30, 0), NAN);
        dueD("low column", x.entry(0, 2, Integer.MIN_VALUE, 0), NAN);
        dueD("column 16", x.entry(0, 0, 16, -13), NAN);
        dueD("plain", x.entry(0, 0, 1, 0), 1.0);
        dueD("broken", x.entry(0, 0, 1, 1), NAN);
        dueD("broken by another", x.entry(0, 0, 2, 0), NAN);
        x.bridge(true);
        dueD("bridged", x.entry(0, 0, 1, 1), 0.0);
        dueD("made of a bridged one", x.entry(0, 0, 2, 0), 1.0);
        x = with(3.0, 3.0, -0.0);
        x.set(0, 0, bits(-0.0));
        x.set(0, 1, bits(-0.0));
        x.bridge(true);
        dueD("a zero less 0.0", x.entry(0, 2, 1, 0), -0.0);
    }

    private static void promise18EntryOfEachTable() {
        double a = 1.0;
        double b = 1.75;
        double c = 2.0;
        double d = 2.3;
        LimitTables x = with(a, b, c, d);
        x.setting(1, bits(3.0));
        double one = 1.0 / (b - a);
        double two = 1.0 / (c - b);
        double three = 1.0 / (d - c);
        dueD("table 0, column 1", x.entry(0, 0, 1, 0), one);
        dueD("table 0, column 2", x.entry(0, 0, 2, 0), b + 1.0 / (two - one));
        dueD("table 0, column 2, place 1", x.entry(0, 0, 2, 1), c + 1.0 / (three - two));
        double far = c + 1.0 / (three - two);
        double near = b + 1.0 / (two - one);
        dueD("table 0, column 3", x.entry(0, 0, 3, 0), two + 1.0 / (far - near));
        dueD("table 1, column 1", x.entry(0, 1, 1, 1), two);
        dueD("table 1, column 2", x.entry(0, 1, 2, 0), b + 2.0 / (two - one));
        double farther = c + 2.0 / (three - two);
        dueD("table 1, column 3", x.entry(0, 1, 3, 0), two + 3.0 / (farther - (b + 2.0 / (two - one))));
        double step = b - a;
        dueD("table 2, column 1", x.entry(0, 2, 1, 0), a - (step * step) / ((c - b) - step));
        dueD("table 2, column 1, place 2", x.entry(0, 2, 1, 2), NAN);
        double first = b + (b - a) / 2.0;
        double second = c + (c - b) / 2.0;
        dueD("table 3, column 1", x.entry(0, 3, 1, 0), first);
        dueD("table 3, column 2", x.entry(0, 3, 2, 0), second + (second - first) / 8.0);
    }

    private static void promise19Kind() {
        LimitTables x = with(1.0, 2.0, 2.0, 6.0);
        due("of row 2", x.kind(2, 0, 0, 0), LimitTables.UNKNOWN);
        due("of table 4", x.kind(0, 4, 99, 0), LimitTables.UNKNOWN);
        due("column 0", x.kind(0, 0, 0, 0), 0);
        due("behind", x.kind(0, 0, 0, 4), LimitTables.NONE);
        due("column 4", x.kind(0, 0, 4, 0), LimitTables.NONE);
        due("table 2, column 2", x.kind(0, 2, 2, 0), LimitTables.NONE);
        due("column -1", x.kind(0, 0, -1, 0), LimitTables.NONE);
        due("place -1", x.kind(0, 0, 0, -1), LimitTables.NONE);
        due("far", x.kind(0, 2, 1 << 30, 1 << 30), LimitTables.NONE);
        due("plain", x.kind(0, 0, 1, 0), 0);
        due("broken by itself", x.kind(0, 0, 1, 1), 2);
        due("broken by another", x.kind(0, 0, 2, 0), 3);
        due("broken by one broken by another", x.kind(0, 0, 3, 0), 3);
        x.bridge(true);
        due("bridged", x.kind(0, 0, 1, 1), 1);
        due("made of a bridged one", x.kind(0, 0, 2, 0), 0);
        x = with(1.0, 3.0);
        x.setting(0, bits(0.5));
        dueD("a divisor of 1", x.entry(0, 3, 1, 0), 5.0);
        x.setting(0, bits(1.0));
        due("a divisor as great as the guard", x.kind(0, 3, 1, 0), 2);
        due("a divisor greater than the guard", x.kind(0, 0, 1, 0), 0);
        x.setting(1, bits(Math.nextUp(2.0)));
        due("a divisor a bit greater", x.kind(0, 3, 1, 0), 0);
        x = with(0.0, 4.9E-324, 4.9E-324);
        x.setting(0, 0L);
        x.bridge(true);
        due("not finite", x.kind(0, 0, 1, 0), 2);
        due("a divisor of 0.0", x.kind(0, 1, 1, 1), 1);
        due("made of one not finite", x.kind(0, 0, 2, 0), 3);
        due("a small divisor above the guard", x.kind(0, 2, 1, 0), 0);
        x = with(3.0, 2.0, 0.0, -4.0);
        due("a divisor below 0.0", x.kind(0, 0, 1, 0), 0);
    }

    private static void promise20Table() {
        LimitTables x = with(1.0, 2.0, 2.0, 6.0, 7.0);
        due("of row 2", x.table(2, 0, 9), LimitTables.UNKNOWN);
        due("of table 4", x.table(0, 4, 9), LimitTables.UNKNOWN);
        due("of table -1", x.table(0, -1, 0), LimitTables.UNKNOWN);
        due("what 5", x.table(0, 0, 5), LimitTables.BAD_VALUE);
        due("what -1", x.table(0, 0, -1), LimitTables.BAD_VALUE);
        due("columns of 0", x.table(0, 0, 0), 5);
        due("columns of 1", x.table(0, 1, 0), 5);
        due("columns of 2", x.table(0, 2, 0), 3);
        due("columns of 3", x.table(0, 3, 0), 5);
        due("columns of an empty row", x.table(1, 0, 0), 0);
        due("broken of an empty row", x.table(1, 0, 1), 0);
        due("guess of an empty row", x.table(1, 2, 4), LimitTables.NONE);
        due("broken", x.table(0, 0, 1), 1 + 2 + 2 + 1);
        due("bridged", x.table(0, 0, 2), 0);
        due("lowest broken", x.table(0, 0, 3), 1);
        due("lowest broken of 3", x.table(0, 3, 3), LimitTables.NONE);
        due("guess", x.table(0, 0, 4), 2);
        due("guess of 3", x.table(0, 3, 4), 4);
        x.bridge(true);
        due("broken then", x.table(0, 0, 1), 0);
        due("bridged then", x.table(0, 0, 2), 1);
        due("lowest then", x.table(0, 0, 3), LimitTables.NONE);
        x.fill(1, 3, 6);
        x.bridge(false);
        due("lowest broken of powers", x.table(1, 0, 3), 3);
        due("broken of powers", x.table(1, 0, 1), 6);
        due("columns of a full row", x.fill(0, 0, 16) + x.table(0, 0, 0) + x.table(0, 2, 0), 16 + 16 + 8);
    }

    private static void promise21And22Guess() {
        LimitTables x = with(1.0, 1.5, 1.75, 1.875);
        dueD("guess of 2", x.guess(2, 0), NAN);
        dueD("guess of table 4", x.guess(0, 4), NAN);
        dueD("guess of an empty row", x.guess(1, 0), NAN);
        dueD("error of 2", x.error(2, 0), NAN);
        dueD("error of table -1", x.error(0, -1), NAN);
        dueD("error of an empty row", x.error(1, 3), NAN);
        dueD("guess 0", x.guess(0, 0), 2.0);
        dueD("error 0", x.error(0, 0), 0.125);
        dueD("guess 2", x.guess(0, 2), 2.0);
        dueD("error 2", x.error(0, 2), 0.125);
        dueD("guess 3: of equal errors the lowest column", x.guess(0, 3), 2.0);
        due("column 3", x.table(0, 3, 4), 2);
        dueD("error 3", x.error(0, 3), 0.0);
        x = with(4.0);
        dueD("guess of one number", x.guess(0, 2), 4.0);
        dueD("error of one number", x.error(0, 2), NAN);
        x = with(4.0, -0.0);
        dueD("guess without column 2", x.guess(0, 1), -0.0);
        dueD("error without column 2", x.error(0, 1), NAN);
        x = with(1.0, 1.0, 1.0);
        dueD("guess of broken columns", x.guess(0, 2), 1.0);
        dueD("error of broken columns", x.error(0, 2), NAN);
        x = with(1.0, 3.0, 4.0, 5.0, 6.0);
        dueD("an end ahead of broken ones", x.guess(0, 2), 5.0);
        dueD("its error", x.error(0, 2), 1.0);
        x = with(2.0, 2.0);
        x.bridge(true);
        dueD("an error of two zeros", x.error(0, 3), 0.0);
    }

    private static void promise23Spread() {
        LimitTables x = with(4.0);
        dueD("spread of 2", x.spread(2), NAN);
        dueD("spread of an empty row", x.spread(1), NAN);
        dueD("spread of one", x.spread(0), 0.0);
        x.add(0, bits(5.0));
        dueD("spread of two", x.spread(0), 1.0);
        x.set(0, 0, bits(6.0));
        dueD("spread the other way", x.spread(0), 1.0);
        x = with(-0.0);
        dueD("spread of a zero", x.spread(0), 0.0);
        x.fill(0, 1, 8);
        double least = Math.min(Math.min(x.guess(0, 0), x.guess(0, 1)), Math.min(x.guess(0, 2), x.guess(0, 3)));
        double most = Math.max(Math.max(x.guess(0, 0), x.guess(0, 1)), Math.max(x.guess(0, 2), x.guess(0, 3)));
        dueD("spread of a series", x.spread(0), most - least);
    }

    private static void promise24Best() {
        LimitTables x = with(4.0);
        due("best of 2", x.best(2), LimitTables.UNKNOWN);
        due("best of an empty row", x.best(1), LimitTables.NONE);
        due("best of one", x.best(0), LimitTables.NONE);
        x.add(0, bits(5.0));
        due("best of two", x.best(0), 3);
        x.add(0, bits(5.5));
        due("of several the lowest", x.best(0), x.error(0, 0) <= x.error(0, 3) ? 0 : 3);
        x.fill(0, 1, 8);
        due("best of a series", x.best(0), 2);
        x = with(3.0, 3.0, 3.0);
        due("table 3 alone", x.best(0), 3);
        x.bridge(true);
        due("all without an error to tell", x.best(0), 0);
    }

    private static void promise25Needed() {
        LimitTables x = new LimitTables();
        x.fill(0, 1, 8);
        due("needed of 2", x.needed(2, 0, bits(NAN)), LimitTables.UNKNOWN);
        due("needed of table 4", x.needed(0, 4, bits(1.0)), LimitTables.UNKNOWN);
        due("needed for NaN", x.needed(0, 0, bits(NAN)), LimitTables.BAD_VALUE);
        due("needed for another NaN", x.needed(0, 0, 0xFFF8000000000000L), LimitTables.BAD_VALUE);
        due("needed for less than 0.0", x.needed(0, 0, bits(-4.9E-324)), LimitTables.BAD_VALUE);
        due("needed for the least of all", x.needed(0, 0, bits(-INFINITE)), LimitTables.BAD_VALUE);
        due("needed for any", x.needed(0, 0, bits(INFINITE)), 3);
        due("needed for any of 2", x.needed(0, 2, bits(INFINITE)), 3);
        due("needed for any of 3", x.needed(0, 3, bits(INFINITE)), 2);
        due("needed of an empty row", x.needed(1, 0, bits(INFINITE)), LimitTables.NONE);
        due("needed for 0.001", x.needed(0, 0, bits(0.001)), 6);
        due("needed for the error of all", x.needed(0, 0, bits(x.error(0, 0))), 8);
        due("needed for less", x.needed(0, 0, bits(Math.nextDown(x.error(0, 0)))), LimitTables.NONE);
        due("needed for 0.0", x.needed(0, 0, 0L), LimitTables.NONE);
        addAll(x, 1, 2.0, 2.0, 2.0);
        due("needed for 0.0 of equal ones", x.needed(1, 3, 0L), 2);
        due("needed for -0.0 of equal ones", x.needed(1, 3, bits(-0.0)), 2);
    }

    private static void promise26Told() {
        LimitTables x = new LimitTables();
        x.setting(0, 0L);
        x.setting(1, bits(1.5));
        x.setting(2, bits(-0.95));
        dueD("guard", x.told(0), 0.0);
        dueD("ratio", x.told(1), 1.5);
        dueD("factor", x.told(2), -0.95);
        dueD("told 3", x.told(3), NAN);
        dueD("told -1", x.told(-1), NAN);
    }

    private static void promise27Count() {
        LimitTables x = with(1.0, 1.0);
        x.add(1, bits(2.0));
        x.type('a');
        x.type('b');
        due("count 0", x.count(0), 2);
        due("count 1", x.count(1), 1);
        due("count 2", x.count(2), 0);
        due("count 3", x.count(3), 2);
        due("count 4", x.count(4), 3);
        due("count 5", x.count(5), 2);
        due("count 6", x.count(6), LimitTables.BAD_VALUE);
        due("count -1", x.count(-1), LimitTables.BAD_VALUE);
        x.bridge(true);
        due("count 2 then", x.count(2), 1);
        due("count 3 then", x.count(3), 0);
        due("count 4 then", x.count(4), 4);
    }

    /** Every act records one state, also if it leaves the state as it was; nothing else does. */
    private static void acts() {
        LimitTables x = with(1.0, 3.0);
        x.type('5');
        x.keep();
        String[] names = {"add", "cut", "set", "read", "fill", "sum", "differences", "take", "setting", "bridge",
            "restore"};
        for (int act = 0; act < names.length; act++) {
            while (x.count(4) > 0) {
                x.undo();
            }
            addAll(x, 0, 1.0);
            addAll(x, 1, 1.0);
            long answer = doAct(x, act);
            due(names[act] + " is an act (" + answer + ")", x.count(4), 3);
        }
        while (x.count(4) > 0) {
            x.undo();
        }
        x.type('1');
        x.clearText();
        x.keep();
        x.undo();
        x.add(0, bits(NAN));
        x.cut(0, 16);
        x.bridge(false);
        x.setting(0, bits(1.0E-10));
        x.read(0);
        x.take(0, 0, 15);
        x.fill(0, 0, 0);
        due("no acts", x.count(4), 0);
    }

    private static long doAct(LimitTables x, int act) {
        switch (act) {
            case 0: return x.add(0, bits(2.0));
            case 1: return x.cut(0, 1);
            case 2: return x.set(0, 0, bits(8.0));
            case 3: return x.read(0);
            case 4: return x.fill(0, 1, 1);
            case 5: return x.sum(1);
            case 6: return x.differences(1);
            case 7: return x.take(0, 0, 0);
            case 8: return x.setting(0, 0L);
            case 9: return x.bridge(true);
            default: return x.restore();
        }
    }
}
