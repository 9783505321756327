import java.util.ArrayDeque;
import java.util.ArrayList;
import java.util.Deque;
import java.util.HashMap;
import java.util.List;
import java.util.Map;
import java.util.regex.Matcher;
import java.util.regex.Pattern;

/**
 * The document once more, written from its words in another way than the
 * class: lists that are copied, entries that are made by recursion, texts that
 * are matched by a pattern, doubles with all that Java has for them.
 */
final class Model {
    private static final int UNKNOWN = -1;
    private static final int BAD_VALUE = -2;
    private static final int FULL = -3;
    private static final int NOT_POSSIBLE = -4;
    private static final int NONE = -5;
    private static final Pattern ROW = Pattern.compile(
            "-?(0|[1-9][0-9]{0,5})(\\.[0-9]{1,6})?(,-?(0|[1-9][0-9]{0,5})(\\.[0-9]{1,6})?)*");

    private record Snap(List<Double> first, List<Double> second, List<Double> settings, boolean bridging) {
        List<Double> row(int row) {
            return row == 0 ? first : second;
        }
    }

    private record Cell(double value, int kind) {
        boolean broken() {
            return kind >= 2;
        }
    }

    private record Guess(double value, double error, int column) {
        boolean hasError() {
            return column > 0;
        }
    }

    private Snap now = new Snap(List.of(), List.of(), List.of(1.0E-10, 2.0, 0.5), false);
    private Snap kept = null;
    private final Deque<Snap> past = new ArrayDeque<>();
    private final StringBuilder text = new StringBuilder();

    // ---- the state

    private boolean noRow(int row) {
        return row != 0 && row != 1;
    }

    private boolean noTable(int table) {
        return table < 0 || table > 3;
    }

    private static boolean refused(double value) {
        return Double.isNaN(value) || Double.isInfinite(value) || Math.abs(value) > 1.0E9;
    }

    private void become(Snap next) {
        past.addLast(now);
        if (past.size() > 4) {
            past.removeFirst();
        }
        now = next;
    }

    private int becomeRow(int row, List<Double> numbers) {
        List<Double> copy = List.copyOf(numbers);
        become(row == 0 ? new Snap(copy, now.second, now.settings, now.bridging)
                : new Snap(now.first, copy, now.settings, now.bridging));
        return copy.size();
    }

    // ---- rows

    int add(int row, long bits) {
        double value = Double.longBitsToDouble(bits);
        if (noRow(row)) {
            return UNKNOWN;
        }
        if (refused(value)) {
            return BAD_VALUE;
        }
        if (now.row(row).size() == 16) {
            return FULL;
        }
        List<Double> next = new ArrayList<>(now.row(row));
        next.add(value);
        return becomeRow(row, next);
    }

    int cut(int row, int many) {
        if (noRow(row)) {
            return UNKNOWN;
        }
        if (many < 1 || many > 16) {
            return BAD_VALUE;
        }
        int size = now.row(row).size();
        return size < many ? NOT_POSSIBLE : becomeRow(row, now.row(row).subList(0, size - many));
    }

    int set(int row, int place, long bits) {
        if (noRow(row) || place < 0 || place >= now.row(row).size()) {
            return UNKNOWN;
        }
        double value = Double.longBitsToDouble(bits);
        if (refused(value)) {
            return BAD_VALUE;
        }
        if (Double.doubleToRawLongBits(now.row(row).get(place)) == bits) {
            return NONE;
        }
        List<Double> next = new ArrayList<>(now.row(row));
        next.set(place, value);
        becomeRow(row, next);
        return place;
    }

    int read(int row) {
        if (noRow(row)) {
            return UNKNOWN;
        }
        for (int end = 1; end <= text.length(); end++) {
            Matcher ahead = ROW.matcher(text.substring(0, end));
            if (!ahead.matches() && !ahead.hitEnd()) {
                return -100 - (end - 1);
            }
        }
        if (!ROW.matcher(text).matches()) {
            return -100 - text.length();
        }
        List<Double> next = new ArrayList<>();
        for (String one : text.toString().split(",")) {
            double value = Double.parseDouble(one);
            next.add(value == 0.0 ? 0.0 : value);
        }
        return next.size() > 16 ? FULL : becomeRow(row, next);
    }

    int fill(int row, int series, int many) {
        if (noRow(row)) {
            return UNKNOWN;
        }
        if (series < 0 || series > 4 || many < 1 || many > 16) {
            return BAD_VALUE;
        }
        List<Double> next = new ArrayList<>();
        for (int terms = 1; terms <= many; terms++) {
            double total = 0.0;
            for (int k = 1; k <= terms; k++) {
                double power = 1.0;
                for (int i = 1; i <= k - 1; i++) {
                    power *= now.settings.get(2);
                }
                double sign = k % 2 == 0 ? -1.0 : 1.0;
                switch (series) {
                    case 0 -> total += 1.0 / (double) (k * k);
                    case 1 -> total += sign * (1.0 / k);
                    case 2 -> total += sign * (1.0 / (2 * k - 1));
                    case 3 -> total += power;
                    default -> total += power / k;
                }
            }
            next.add(total);
        }
        return becomeRow(row, next);
    }

    int sum(int row) {
        if (noRow(row)) {
            return UNKNOWN;
        }
        List<Double> next = new ArrayList<>();
        double total = 0.0;
        for (double value : now.row(row)) {
            total += value;
            next.add(total);
        }
        return orderly(row, next);
    }

    int differences(int row) {
        if (noRow(row)) {
            return UNKNOWN;
        }
        List<Double> next = new ArrayList<>(now.row(row));
        for (int i = next.size() - 1; i > 0; i--) {
            next.set(i, next.get(i) - next.get(i - 1));
        }
        return orderly(row, next);
    }

    private int orderly(int row, List<Double> next) {
        if (next.stream().anyMatch(Model::refused)) {
            return NOT_POSSIBLE;
        }
        return next.isEmpty() ? NONE : becomeRow(row, next);
    }

    int take(int row, int table, int column) {
        if (noRow(row) || noTable(table)) {
            return UNKNOWN;
        }
        if (column < 0 || column > 15) {
            return BAD_VALUE;
        }
        Tables tables = new Tables(now.row(1 - row), table);
        List<Double> next = new ArrayList<>();
        for (int place = 0; tables.there(column, place); place++) {
            Cell cell = tables.cell(column, place);
            if (!cell.broken() && !refused(cell.value)) {
                next.add(cell.value);
            }
        }
        return next.isEmpty() ? NOT_POSSIBLE : becomeRow(row, next);
    }

    // ---- settings

    int setting(int what, long bits) {
        if (what < 0 || what > 2) {
            return BAD_VALUE;
        }
        double value = Double.longBitsToDouble(bits);
        double[] low = {0.0, 1.5, -0.95};
        double[] high = {1.0, 10.0, 0.95};
        if (!(value >= low[what] && value <= high[what]) || bits == Long.MIN_VALUE) {
            return BAD_VALUE;
        }
        if (now.settings.get(what).equals(value)) {
            return NONE;
        }
        List<Double> next = new ArrayList<>(now.settings);
        next.set(what, value);
        become(new Snap(now.first, now.second, next, now.bridging));
        return what;
    }

    int bridge(boolean on) {
        if (now.bridging == on) {
            return NONE;
        }
        become(new Snap(now.first, now.second, now.settings, on));
        return count(3);
    }

    // ---- texts

    int type(char character) {
        if (text.length() == 60) {
            return FULL;
        }
        text.append(character);
        return text.length();
    }

    int clearText() {
        int had = text.length();
        text.setLength(0);
        return had;
    }

    // ---- history

    int undo() {
        if (past.isEmpty()) {
            return NONE;
        }
        now = past.removeLast();
        return past.size();
    }

    int keep() {
        kept = now;
        return now.first.size() + now.second.size();
    }

    int restore() {
        if (kept == null) {
            return NONE;
        }
        become(kept);
        return now.first.size() + now.second.size();
    }

    // ---- what is told

    double number(int row, int place) {
        boolean there = !noRow(row) && place >= 0 && place < now.row(row).size();
        return there ? now.row(row).get(place) : Double.NaN;
    }

    double entry(int row, int table, int column, int place) {
        int kind = kind(row, table, column, place);
        boolean told = kind == 0 || kind == 1;
        return told ? new Tables(now.row(row), table).cell(column, place).value : Double.NaN;
    }

    int kind(int row, int table, int column, int place) {
        if (noRow(row) || noTable(table)) {
            return UNKNOWN;
        }
        Tables tables = new Tables(now.row(row), table);
        return tables.there(column, place) ? tables.cell(column, place).kind : NONE;
    }

    int table(int row, int table, int what) {
        if (noRow(row) || noTable(table)) {
            return UNKNOWN;
        }
        if (what < 0 || what > 4) {
            return BAD_VALUE;
        }
        Tables tables = new Tables(now.row(row), table);
        if (what == 4) {
            Guess guess = tables.guess();
            return guess.hasError() ? guess.column : NONE;
        }
        int columns = 0;
        int broken = 0;
        int bridged = 0;
        int lowest = NONE;
        for (int column = 0; tables.there(column, 0); column++) {
            columns++;
            for (int place = 0; tables.there(column, place); place++) {
                Cell cell = tables.cell(column, place);
                broken += cell.broken() ? 1 : 0;
                bridged += cell.kind == 1 ? 1 : 0;
                lowest = cell.broken() && lowest == NONE ? column : lowest;
            }
        }
        return new int[] {columns, broken, bridged, lowest}[what];
    }

    double guess(int row, int table) {
        if (noRow(row) || noTable(table) || now.row(row).isEmpty()) {
            return Double.NaN;
        }
        return new Tables(now.row(row), table).guess().value;
    }

    double error(int row, int table) {
        if (noRow(row) || noTable(table)) {
            return Double.NaN;
        }
        Guess guess = new Tables(now.row(row), table).guess();
        return guess.hasError() ? guess.error : Double.NaN;
    }

    double spread(int row) {
        if (noRow(row) || now.row(row).isEmpty()) {
            return Double.NaN;
        }
        double least = Double.POSITIVE_INFINITY;
        double greatest = Double.NEGATIVE_INFINITY;
        for (int table = 0; table < 4; table++) {
            least = Math.min(least, guess(row, table));
            greatest = Math.max(greatest, guess(row, table));
        }
        return greatest - least;
    }

    int best(int row) {
        if (noRow(row)) {
            return UNKNOWN;
        }
        int found = NONE;
        for (int table = 3; table >= 0; table--) {
            double error = error(row, table);
            if (!Double.isNaN(error) && (found == NONE || error <= error(row, found))) {
                found = table;
            }
        }
        return found;
    }

    int needed(int row, int table, long bits) {
        if (noRow(row) || noTable(table)) {
            return UNKNOWN;
        }
        double most = Double.longBitsToDouble(bits);
        if (!(most >= 0.0)) {
            return BAD_VALUE;
        }
        for (int length = 0; length <= now.row(row).size(); length++) {
            Guess guess = new Tables(now.row(row).subList(0, length), table).guess();
            if (guess.hasError() && guess.error <= most) {
                return length;
            }
        }
        return NONE;
    }

    double told(int what) {
        return what >= 0 && what <= 2 ? now.settings.get(what) : Double.NaN;
    }

    int count(int what) {
        switch (what) {
            case 0: return now.first.size();
            case 1: return now.second.size();
            case 2: return now.bridging ? 1 : 0;
            case 3:
                int many = 0;
                for (int i = 0; i < 8; i++) {
                    many += table(i / 4, i % 4, 1);
                }
                return many;
            case 4: return past.size();
            case 5: return text.length();
            default: return BAD_VALUE;
        }
    }

    /** One table of a row, each entry made when it is asked for. */
    private final class Tables {
        private final List<Double> row;
        private final int table;
        private final Map<Integer, Cell> made = new HashMap<>();

        Tables(List<Double> row, int table) {
            this.row = row;
            this.table = table;
        }

        boolean there(int c, int n) {
            return c >= 0 && n >= 0 && (long) n + (table == 2 ? 2L : 1L) * c < row.size();
        }

        Cell cell(int c, int n) {
            if (c == 0) {
                return new Cell(row.get(n), 0);
            }
            Cell known = made.get(100 * c + n);
            if (known == null) {
                known = make(c, n);
                made.put(100 * c + n, known);
            }
            return known;
        }

        private Cell make(int c, int n) {
            Cell one = cell(c - 1, n);
            Cell two = cell(c - 1, n + 1);
            Cell three = table == 2 ? cell(c - 1, n + 2) : two;
            Cell back = table < 2 && c > 1 ? cell(c - 2, n + 1) : new Cell(0.0, 0);
            if (one.broken() || two.broken() || three.broken() || back.broken()) {
                return new Cell(Double.NaN, 3);
            }
            double step = two.value - one.value;
            if (table < 2) {
                return close(back.value, table == 0 ? 1.0 : c, step, false);
            }
            if (table == 2) {
                return close(one.value, step * step, three.value - two.value - step, true);
            }
            double power = 1.0;
            for (int i = 0; i < c; i++) {
                power *= now.settings.get(1);
            }
            return close(two.value, step, power - 1.0, false);
        }

        private Cell close(double base, double top, double divisor, boolean minus) {
            boolean tooSmall = !(Math.abs(divisor) > now.settings.get(0));
            if (tooSmall && !now.bridging) {
                return new Cell(Double.NaN, 2);
            }
            double quotient = tooSmall ? 0.0 : top / divisor;
            double value = minus ? base - quotient : base + quotient;
            if (Double.isNaN(value) || Double.isInfinite(value)) {
                return new Cell(Double.NaN, 2);
            }
            return new Cell(value, tooSmall ? 1 : 0);
        }

        private Double end(int c) {
            Double found = null;
            for (int n = 0; there(c, n); n++) {
                if (!cell(c, n).broken()) {
                    found = cell(c, n).value;
                }
            }
            return found;
        }

        Guess guess() {
            int step = table < 2 ? 2 : 1;
            Guess found = new Guess(row.isEmpty() ? Double.NaN : row.get(row.size() - 1), Double.NaN, 0);
            for (int c = step; there(c, 0); c += step) {
                Double end = end(c);
                Double before = end(c - step);
                if (end != null && before != null) {
                    double error = Math.abs(end - before);
                    if (!found.hasError() || error < found.error) {
                        found = new Guess(end, error, c);
                    }
                }
            }
            return found;
        }
    }
}
