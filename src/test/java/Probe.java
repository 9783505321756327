/** What an object tells of itself, as a text. */
final class Probe {
    private Probe() {
    }

    /** The state, and how much there is of the history and of the text. */
    static String shallow(LimitTables x) {
        StringBuilder told = new StringBuilder();
        for (int what = 0; what <= 5; what++) {
            told.append(x.count(what)).append(' ');
        }
        for (int what = 0; what <= 2; what++) {
            told.append(Double.doubleToRawLongBits(x.told(what))).append(' ');
        }
        for (int row = 0; row <= 1; row++) {
            for (int place = 0; place < x.count(row); place++) {
                told.append(Double.doubleToRawLongBits(x.number(row, place))).append(' ');
            }
        }
        return told.append('\n').toString();
    }

    /** The whole object, the history, the snapshot and the text too; it is used up by that. */
    static String deep(LimitTables x) {
        StringBuilder told = new StringBuilder(shallow(x));
        for (int left = x.undo(); left >= 0; left = x.undo()) {
            told.append("undo ").append(left).append(": ").append(shallow(x));
        }
        told.append("restore ").append(x.restore()).append(": ").append(shallow(x));
        told.append("read ").append(x.read(0)).append(": ").append(shallow(x));
        return told.toString();
    }
}
