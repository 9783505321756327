import java.util.regex.Matcher;
import java.util.regex.Pattern;

/** Texts: promises 5, 12 and 13. */
final class TextBoundaries extends Boundaries {
    private static final String NUMBER = "-?(0|[1-9][0-9]{0,5})(\\.[0-9]{1,6})?";
    private static final Pattern ROW = Pattern.compile(NUMBER + "(," + NUMBER + ")*");
    private static final String SIXTEEN = "0,1,2,3,4,5,6,7,8,9,0,1,2,3,4,5";

    TextBoundaries(Sentences sentences) {
        super(sentences);
    }

    @Override
    void all() {
        room();
        rowsOfNumbers();
        digits();
        values();
        faults();
        allShortTexts();
        read();
        readAnswers();
        type();
        clearText();
    }

    private void dueRead(String text, int answer) {
        due("read of '" + text + "'", typed(text).read(0), answer);
    }

    private void dueFault(String text, int fault) {
        dueRead(text, -100 - fault);
    }

    private void dueValue(String text, double value) {
        LimitTables x = typed(text);
        due("read of '" + text + "'", x.read(0), 1);
        dueD("the number of '" + text + "'", x.number(0, 0), value);
    }

    private void room() {
        term("TEXTS", "12, 13, 27", "There is a text of at most 60 characters, empty at first.", () -> {
            LimitTables x = new LimitTables();
            due("the length at first", x.count(5), 0);
            due("the fault at first", x.read(0), -100);
            for (int length = 1; length <= 60; length++) {
                due("type number " + length, x.type('1'), length);
            }
            due("type number 61", x.type('1'), LimitTables.FULL);
            due("the length then", x.count(5), 60);
            due("one text for both rows", x.read(1), -106);
        });
    }

    private void rowsOfNumbers() {
        term("TEXTS", "5", "A row of numbers is one or more numbers with \",\" between two.", () -> {
            dueRead("7", 1);
            dueRead("7,8", 2);
            dueRead("7,8,9", 3);
            dueFault("", 0);
            dueFault(",", 0);
            dueFault(",7", 0);
            dueFault("7,", 2);
            dueFault("7,,8", 2);
            dueFault("7;8", 1);
            dueFault("7 8", 1);
            dueFault("7, 8", 2);
            dueFault("7-8", 1);
            LimitTables x = typed("7,-8.5,0");
            x.read(0);
            dueRow("the row", x, 0, 7.0, -8.5, 0.0);
        });
        term("TEXTS", "5", "A number is perhaps \"-\", then one to six digits", () -> {
            dueValue("5", 5.0);
            dueValue("-5", -5.0);
            dueValue("123456", 123456.0);
            dueValue("-123456", -123456.0);
            dueFault("1234567", 6);
            dueFault("-1234567", 7);
            dueFault("-", 1);
            dueFault("--5", 1);
            dueFault("5-", 1);
            dueFault("+5", 0);
            dueFault("-,5", 1);
            dueFault(".5", 0);
            dueFault("-.5", 1);
        });
    }

    private void digits() {
        term("TEXTS", "5", "(the first one not 0, unless it is a single digit),", () -> {
            dueValue("0", 0.0);
            dueValue("0.5", 0.5);
            dueValue("10", 10.0);
            dueValue("100000", 100000.0);
            dueFault("00", 1);
            dueFault("01", 1);
            dueFault("-01", 2);
            dueFault("000000", 1);
            dueFault("5,09", 3);
            dueRead("0,0", 2);
            dueFault("00.5", 1);
        });
        term("TEXTS", "5", "and perhaps \".\" and one to six digits.", () -> {
            dueValue("5.0", 5.0);
            dueValue("5.000000", 5.0);
            dueValue("5.123456", 5.123456);
            dueValue("0.000001", 0.000001);
            dueFault("5.1234567", 8);
            dueFault("5.", 2);
            dueFault("5.,6", 2);
            dueFault("5..6", 2);
            dueFault("5.-6", 2);
            dueFault("5.6.7", 3);
            dueFault("123456.1234567", 13);
            dueRead("123456.123456,654321.654321", 2);
        });
    }

    private void values() {
        term("TEXTS", "5", "Its value is d / p, both whole numbers converted: d is the number of all its digits, without the "
                + "point, and p is 1 with as many zeros as there are digits behind the point;", () -> {
            dueValue("999999.999999", 999999999999.0 / 1000000.0);
            dueValue("0.3", 3.0 / 10.0);
            differ("0.3", 3.0 / 10.0, 3.0 * 0.1);
            dueValue("7.30", 730.0 / 100.0);
            dueValue("100000.000001", 100000000001.0 / 1000000.0);
            for (String text : new String[] {"0.1", "0.12", "0.123", "0.1234", "0.12345", "0.123456", "9.000009",
                "123456.7", "987654.321", "1.0", "12.05", "100.001", "0.000000"}) {
                dueValue(text, Double.parseDouble(text));
            }
        });
        term("TEXTS", "5", "with \"-\" it is 0.0 - that.", () -> {
            dueValue("-0", 0.0);
            dueValue("-0.000", 0.0);
            dueValue("-0.3", 0.0 - 0.3);
            dueValue("-999999.999999", 0.0 - 999999.999999);
            LimitTables x = typed("-1,1,-2");
            x.read(0);
            dueRow("the row", x, 0, -1.0, 1.0, -2.0);
        });
    }

    private void faults() {
        term("TEXTS", "5", "The fault of the text is the index, from 0, of the first character that is not allowed at its "
                + "place,", () -> {
            dueFault("x", 0);
            dueFault("1x", 1);
            dueFault("1,2,x,y", 4);
            dueFault("1.5x", 3);
            dueFault("1/2", 1);
            dueFault("1:2", 1);
            for (char other : new char[] {0, ' ', '+', '/', ':', 'e', 127, 128, 255, 256, '\u0661', '\uff11', 0xFFFF,
                (char) (256 + '1'), (char) (256 + ','), (char) (256 + '-'), (char) (256 + '.'),
                (char) (65280 + '1')}) {
                dueFault(String.valueOf(other), 0);
                dueFault("1" + other, 1);
                dueFault("-1.2,3.4" + other + "5", 8);
            }
            dueFault(times("1,", 29) + "1x", 59);
            dueFault(times("1,", 29) + "x", 58);
        });
        term("TEXTS", "5", "or the length of the text if it ends too early (the empty text does).", () -> {
            dueFault("", 0);
            dueFault("-", 1);
            dueFault("1,", 2);
            dueFault("1.", 2);
            dueFault("1,-", 3);
            dueFault("1,2.", 4);
            dueFault(times("1,", 30), 60);
            dueFault(times("1,", 29) + "1.", 60);
            dueFault(times("1,", 29) + "-", 59);
            LimitTables x = typed("1,2");
            x.clearText();
            due("read of a text that was emptied", x.read(0), -100);
            typed(x, "-");
            due("read of a shorter text", x.read(0), -101);
        });
    }

    /** The fault as a pattern tells it: what stands ahead of it could still become a row of numbers. */
    private static int wanted(String text) {
        int most = 0;
        while (most < text.length() && couldBecomeRow(text.substring(0, most + 1))) {
            most++;
        }
        boolean right = most == text.length() && ROW.matcher(text).matches();
        return right ? text.split(",").length : -100 - most;
    }

    private static boolean couldBecomeRow(String text) {
        Matcher matcher = ROW.matcher(text);
        return matcher.matches() || matcher.hitEnd();
    }

    private void allShortTexts() {
        term("TEXTS", "5", "the first character that is not allowed at its place, or the length of the text if it ends too "
                + "early", () -> {
            allTexts("", "0.,-19x", 5);
            for (String ahead : new String[] {"123456.12345", "-99999", "10.000000", "0.0,1000", "0,0.9999"}) {
                allTexts(ahead, "0.,-5x", 3);
            }
        });
    }

    private void allTexts(String text, String signs, int more) {
        LimitTables x = typed(text);
        int answer = x.read(0);
        if (answer != wanted(text)) {
            dueRead(text, wanted(text));
        }
        if (answer > 0) {
            String[] parts = text.split(",");
            for (int place = 0; place < parts.length; place++) {
                dueD("number " + place + " of '" + text + "'", x.number(0, place), Double.parseDouble(parts[place]) + 0.0);
            }
        }
        for (int sign = 0; sign < signs.length() && more > 0; sign++) {
            allTexts(text + signs.charAt(sign), signs, more - 1);
        }
    }

    private void read() {
        promise(5, "Makes a row the numbers of the text,", () -> {
            LimitTables x = typed("4,-5.5");
            x.fill(0, 0, 16);
            addAll(x, 1, 8.0);
            x.read(0);
            dueRow("the row", x, 0, 4.0, -5.5);
            dueRow("the other row", x, 1, 8.0);
            typed(x, "1,2,3").read(0);
            dueRow("a longer row", x, 0, 1.0, 2.0, 3.0);
        });
        promise(5, "which stays.", () -> {
            LimitTables x = typed("4,-5.5");
            x.read(0);
            due("the length", x.count(5), 6);
            due("read again", x.read(1), 2);
            dueRow("the same numbers", x, 1, 4.0, -5.5);
            x.type('9');
            due("and it goes on", x.read(1), 2);
            dueRow("the longer text", x, 1, 4.0, -5.59);
        });
        promise(5, "This is an act.", () -> {
            act("read(0)", () -> typed("1,2,3"), x -> x.read(0), 3);
            act("read(0) that leaves all as it was", () -> typed(with(7.0), "7"), x -> x.read(0), 1);
        });
        promise(5, "`row`: 0 or 1", () -> {
            LimitTables x = typed("4,5");
            due("0", x.read(0), 2);
            due("the row 1 is as it was", x.count(1), 0);
            due("1", x.read(1), 2);
        });
    }

    private void readAnswers() {
        promise(5, "Returns how many there are;", () -> {
            for (int many = 1; many <= 16; many++) {
                LimitTables x = typed(times("6,", many - 1) + "6");
                due("of " + many, x.read(0), many);
                due("numbers then", x.count(0), many);
                dueD("the last one", x.number(0, many - 1), 6.0);
            }
        });
        promise(5, "UNKNOWN;", () -> {
            for (int row : NO_ROWS) {
                nothing("read into " + row, Boundaries::lived, x -> x.read(row), LimitTables.UNKNOWN);
            }
        });
        promise(5, "-100 minus the fault of the text if it has one (which is an error);", () -> {
            for (String text : new String[] {"", "x", "1,", "1,2.", "00", times("1,", 29) + "1x", times("1,", 30)}) {
                nothing("read of '" + text + "'", () -> typed(lived(), text), x -> x.read(0), wanted(text));
            }
            dueRead("", -100);
            dueRead(times("1,", 29) + "1x", -159);
            dueRead(times("1,", 30), -160);
        });
        promise(5, "FULL if there are more than 16.", () -> {
            dueRead(SIXTEEN, 16);
            nothing("read of 17", () -> typed(lived(), SIXTEEN + ",6"), x -> x.read(0), LimitTables.FULL);
            nothing("read of 30", () -> typed(lived(), times("1,", 29) + "12"), x -> x.read(1), LimitTables.FULL);
            dueFault(SIXTEEN + ",", 32);
            dueFault(SIXTEEN + ",6x", 33);
            dueRead(SIXTEEN.replace("0,1,2", "-10.25,1,2"), 16);
        });
    }

    private void type() {
        promise(12, "Types a character behind the text.", () -> {
            LimitTables x = typed("1,2");
            x.type('3');
            x.read(0);
            dueRow("the row", x, 0, 1.0, 23.0);
            due("it is no act", x.count(4), 1);
        });
        promise(12, "`character`: any character", () -> {
            for (int character : new int[] {0, 1, 10, 127, 128, 255, 256, 0x661, 0xD800, 0xDFFF, 0xFFFE, 0xFFFF}) {
                LimitTables x = new LimitTables();
                due("type((char) " + character + ")", x.type((char) character), 1);
                due("it is kept", x.count(5), 1);
                due("it is no number", x.read(0), -100);
            }
        });
        promise(12, "Returns the length of the text then;", () -> {
            LimitTables x = new LimitTables();
            for (int length = 1; length <= 60; length++) {
                due("type number " + length, x.type((char) (length * 7)), length);
            }
        });
        promise(12, "FULL if it has 60 characters.", () -> {
            String text = times("1,", 29) + "12";
            nothing("type into 60 characters", () -> typed(lived(), text), x -> x.type('3'), LimitTables.FULL);
            due("type into 59 characters", typed(times("1,", 29) + "1").type('2'), 60);
            LimitTables x = typed(text);
            x.type('x');
            x.type('x');
            due("the text is as it was", x.read(0), LimitTables.FULL);
            x.clearText();
            due("type into an emptied text", x.type('3'), 1);
        });
    }

    private void clearText() {
        promise(13, "Empties the text.", () -> {
            LimitTables x = typed("1,2,3");
            x.clearText();
            due("the length", x.count(5), 0);
            due("the fault", x.read(0), -100);
            x.type('9');
            x.read(0);
            dueRow("what was typed since", x, 0, 9.0);
            due("it is no act", x.count(4), 1);
        });
        promise(13, "Returns the length that it had.", () -> {
            for (int length = 0; length <= 60; length++) {
                LimitTables x = typed(times("1", length));
                due("of " + length, x.clearText(), length);
                due("of an empty one", x.clearText(), 0);
            }
        });
    }
}
