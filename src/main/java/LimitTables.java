/**
 * Two rows of numbers that come slowly to a limit, and four kinds of tables
 * that come to it faster. The document (../shared/DOC.md) says what each call
 * answers; README.md says how to use the class.
 */
public final class LimitTables {
    public static final int UNKNOWN = -1;
    public static final int BAD_VALUE = -2;
    public static final int FULL = -3;
    public static final int NOT_POSSIBLE = -4;
    public static final int NONE = -5;

    private static final int ROOM = 16;
    private static final int ROWS = 2;
    private static final int TABLES = 4;
    private static final int SERIES = 5;

    private final State state = new State();
    private final State snapshot = new State();
    private boolean snapshotTaken = false;
    private final History history = new History();
    private final Text text = new Text();
    private final Grid grid = new Grid();
    /** The row that an act makes: it is looked at as a whole before it is put in place. */
    private final Row draft = new Row();

    public LimitTables() {
    }

    // ---- rows

    public int add(int row, long bits) {
        if (!isRow(row)) {
            return UNKNOWN;
        }
        if (!Bits.fitRow(bits)) {
            return BAD_VALUE;
        }
        Row target = state.rowAt(row);
        if (target.length == ROOM) {
            return FULL;
        }
        history.remember(state);
        target.append(Bits.decoded(bits));
        return target.length;
    }

    public int cut(int row, int many) {
        if (!isRow(row)) {
            return UNKNOWN;
        }
        if (many < 1 || many > ROOM) {
            return BAD_VALUE;
        }
        Row target = state.rowAt(row);
        if (many > target.length) {
            return NOT_POSSIBLE;
        }
        history.remember(state);
        target.length = target.length - many;
        return target.length;
    }

    public int set(int row, int place, long bits) {
        if (!isRow(row) || !state.rowAt(row).hasPlace(place)) {
            return UNKNOWN;
        }
        if (!Bits.fitRow(bits)) {
            return BAD_VALUE;
        }
        Row target = state.rowAt(row);
        double value = Bits.decoded(bits);
        if (Numbers.sameBits(target.numbers[place], value)) {
            return NONE;
        }
        history.remember(state);
        target.numbers[place] = value;
        return place;
    }

    public int read(int row) {
        if (!isRow(row)) {
            return UNKNOWN;
        }
        int many = text.parseInto(draft);
        if (many < 0) {
            return many;
        }
        if (many > ROOM) {
            return FULL;
        }
        return putDraft(row);
    }

    public int fill(int row, int series, int many) {
        if (!isRow(row)) {
            return UNKNOWN;
        }
        if (series < 0 || series >= SERIES || many < 1 || many > ROOM) {
            return BAD_VALUE;
        }
        Sums.fillSeries(draft, series, many, state.settings[State.FACTOR]);
        return putDraft(row);
    }

    public int sum(int row) {
        if (!isRow(row)) {
            return UNKNOWN;
        }
        Row source = state.rowAt(row);
        if (source.length == 0) {
            return NONE;
        }
        if (!Sums.sumUp(source, draft)) {
            return NOT_POSSIBLE;
        }
        return putDraft(row);
    }

    public int differences(int row) {
        if (!isRow(row)) {
            return UNKNOWN;
        }
        Row source = state.rowAt(row);
        if (source.length == 0) {
            return NONE;
        }
        if (!Sums.takeDifferences(source, draft)) {
            return NOT_POSSIBLE;
        }
        return putDraft(row);
    }

    public int take(int row, int table, int column) {
        if (!isTable(row, table)) {
            return UNKNOWN;
        }
        if (column < 0 || column >= ROOM) {
            return BAD_VALUE;
        }
        grid.build(state, 1 - row, table);
        grid.copyColumn(column, draft);
        if (draft.length == 0) {
            return NOT_POSSIBLE;
        }
        return putDraft(row);
    }

    // ---- settings

    public int setting(int what, long bits) {
        if (!State.isSetting(what) || Bits.isNan(bits) || Bits.isMinusZero(bits)) {
            return BAD_VALUE;
        }
        double value = Bits.decoded(bits);
        if (!State.inRange(what, value)) {
            return BAD_VALUE;
        }
        if (state.settings[what] == value) {
            return NONE;
        }
        history.remember(state);
        state.settings[what] = value;
        return what;
    }

    public int bridge(boolean on) {
        if (state.bridging == on) {
            return NONE;
        }
        history.remember(state);
        state.bridging = on;
        return brokenInAll();
    }

    // ---- texts

    public int type(char character) {
        if (text.length == Text.MOST) {
            return FULL;
        }
        text.append(character);
        return text.length;
    }

    public int clearText() {
        int had = text.length;
        text.length = 0;
        return had;
    }

    // ---- history

    public int undo() {
        if (history.size == 0) {
            return NONE;
        }
        history.bringBack(state);
        return history.size;
    }

    public int keep() {
        snapshot.copyFrom(state);
        snapshotTaken = true;
        return state.manyNumbers();
    }

    public int restore() {
        if (!snapshotTaken) {
            return NONE;
        }
        history.remember(state);
        state.copyFrom(snapshot);
        return state.manyNumbers();
    }

    // ---- what is told

    public double number(int row, int place) {
        if (!isRow(row) || !state.rowAt(row).hasPlace(place)) {
            return noNumber();
        }
        return state.rowAt(row).numbers[place];
    }

    public double entry(int row, int table, int column, int place) {
        if (!isTable(row, table)) {
            return noNumber();
        }
        grid.build(state, row, table);
        if (!grid.hasEntry(column, place) || grid.isBroken(column, place)) {
            return noNumber();
        }
        return grid.valueAt(column, place);
    }

    public int kind(int row, int table, int column, int place) {
        if (!isTable(row, table)) {
            return UNKNOWN;
        }
        grid.build(state, row, table);
        if (!grid.hasEntry(column, place)) {
            return NONE;
        }
        return grid.kindAt(column, place);
    }

    public int table(int row, int table, int what) {
        if (!isTable(row, table)) {
            return UNKNOWN;
        }
        if (what < 0 || what > 4) {
            return BAD_VALUE;
        }
        grid.build(state, row, table);
        switch (what) {
            case 0:
                return grid.manyColumns();
            case 1:
                return grid.manyBroken();
            case 2:
                return grid.manyBridged();
            case 3:
                return grid.lowestBroken();
            default:
                return grid.seekGuess(grid.length) ? grid.guessColumn : NONE;
        }
    }

    public double guess(int row, int table) {
        if (!isTable(row, table) || state.rowAt(row).length == 0) {
            return noNumber();
        }
        return guessOf(row, table);
    }

    public double error(int row, int table) {
        if (!isTable(row, table)) {
            return noNumber();
        }
        grid.build(state, row, table);
        return grid.seekGuess(grid.length) ? grid.guessError : noNumber();
    }

    public double spread(int row) {
        if (!isRow(row) || state.rowAt(row).length == 0) {
            return noNumber();
        }
        double least = guessOf(row, 0);
        double greatest = least;
        for (int table = 1; table < TABLES; table++) {
            double value = guessOf(row, table);
            least = value < least ? value : least;
            greatest = value > greatest ? value : greatest;
        }
        return greatest - least;
    }

    public int best(int row) {
        if (!isRow(row)) {
            return UNKNOWN;
        }
        int found = NONE;
        double least = 0.0;
        for (int table = 0; table < TABLES; table++) {
            grid.build(state, row, table);
            if (grid.seekGuess(grid.length) && (found == NONE || grid.guessError < least)) {
                found = table;
                least = grid.guessError;
            }
        }
        return found;
    }

    public int needed(int row, int table, long bits) {
        if (!isTable(row, table)) {
            return UNKNOWN;
        }
        if (Bits.isNan(bits)) {
            return BAD_VALUE;
        }
        double most = Bits.decoded(bits);
        if (most < 0.0) {
            return BAD_VALUE;
        }
        // An entry does not depend on the numbers behind those of which it is
        // made, so the table of the whole row serves for each shorter one.
        grid.build(state, row, table);
        for (int cut = 1; cut <= grid.length; cut++) {
            if (grid.seekGuess(cut) && grid.guessError <= most) {
                return cut;
            }
        }
        return NONE;
    }

    public double told(int what) {
        return State.isSetting(what) ? state.settings[what] : noNumber();
    }

    public int count(int what) {
        switch (what) {
            case 0:
                return state.rowAt(0).length;
            case 1:
                return state.rowAt(1).length;
            case 2:
                return state.bridging ? 1 : 0;
            case 3:
                return brokenInAll();
            case 4:
                return history.size;
            case 5:
                return text.length;
            default:
                return BAD_VALUE;
        }
    }

    // ---- helpers of the calls

    private static boolean isRow(int row) {
        return row >= 0 && row < ROWS;
    }

    private static boolean isTable(int row, int table) {
        return isRow(row) && table >= 0 && table < TABLES;
    }

    /** What the calls that return a double answer in place of an error. */
    private static double noNumber() {
        return Double.NaN;
    }

    /** Ends an act that has made a whole row: tells how many numbers it has. */
    private int putDraft(int row) {
        history.remember(state);
        Row target = state.rowAt(row);
        target.copyFrom(draft);
        return target.length;
    }

    private double guessOf(int row, int table) {
        grid.build(state, row, table);
        grid.seekGuess(grid.length);
        return grid.guessValue;
    }

    private int brokenInAll() {
        int many = 0;
        for (int row = 0; row < ROWS; row++) {
            for (int table = 0; table < TABLES; table++) {
                grid.build(state, row, table);
                many += grid.manyBroken();
            }
        }
        return many;
    }

    /** Doubles that are given by their bits. */
    private static final class Bits {
        private static final long FRACTION = (1L << 52) - 1L;
        private static final long LEADING = 1L << 52;
        private static final long SIGN = 1L << 63;

        static int exponentOf(long bits) {
            return (int) ((bits >>> 52) & 2047L);
        }

        static boolean isNan(long bits) {
            return exponentOf(bits) == 2047 && (bits & FRACTION) != 0L;
        }

        static boolean isMinusZero(long bits) {
            return bits == SIGN;
        }

        static boolean fitRow(long bits) {
            return !isNan(bits) && Numbers.fitsRow(decoded(bits));
        }

        /** The double of bits that are not those of a NaN. */
        static double decoded(long bits) {
            int exponent = exponentOf(bits);
            long fraction = bits & FRACTION;
            double size = exponent == 0
                    ? scaled((double) fraction, -1074)
                    : scaled((double) (fraction | LEADING), exponent - 1075);
            return bits < 0L ? -size : size;
        }

        /**
         * The whole number times 2 to the power. Each product on the way is
         * exact, for it has no digit below the last one of the outcome; the
         * bits of the infinite overflow to the infinite by themselves.
         */
        private static double scaled(double whole, int power) {
            int steps = power < 0 ? -power : power;
            double factor = power < 0 ? 0.5 : 2.0;
            double outcome = whole;
            for (int digit = 0; digit < 11; digit++) {
                if (((steps >> digit) & 1) == 1) {
                    outcome = outcome * factor;
                }
                factor = factor * factor;
            }
            return outcome;
        }
    }

    /** What is asked of doubles that are not NaN. */
    private static final class Numbers {
        static boolean isFinite(double value) {
            return value >= -1.7976931348623157E308 && value <= 1.7976931348623157E308;
        }

        static boolean fitsRow(double value) {
            return value >= -1.0E9 && value <= 1.0E9;
        }

        /** 0.0 is taken away from, not negated: the size of -0.0 is 0.0. */
        static double sizeOf(double value) {
            return value <= 0.0 ? 0.0 - value : value;
        }

        /** The two zeros are equal but have other bits: only their inverses tell them apart. */
        static boolean sameBits(double one, double other) {
            if (one != other) {
                return false;
            }
            return one != 0.0 || (1.0 / one < 0.0) == (1.0 / other < 0.0);
        }
    }

    /** A row of numbers. */
    private static final class Row {
        final double[] numbers = new double[ROOM];
        int length = 0;

        boolean hasPlace(int place) {
            return place >= 0 && place < length;
        }

        /** Puts a number behind the row, if there is room. */
        void append(double value) {
            if (length < ROOM) {
                numbers[length] = value;
                length++;
            }
        }

        void copyFrom(Row other) {
            System.arraycopy(other.numbers, 0, numbers, 0, ROOM);
            length = other.length;
        }
    }

    /** Everything that undo() and restore() bring back. */
    private static final class State {
        static final int GUARD = 0;
        static final int RATIO = 1;
        static final int FACTOR = 2;
        private static final int SETTINGS = 3;

        private final Row first = new Row();
        private final Row second = new Row();
        final double[] settings = new double[SETTINGS];
        boolean bridging = false;

        State() {
            settings[GUARD] = 1.0E-10;
            settings[RATIO] = 2.0;
            settings[FACTOR] = 0.5;
        }

        static boolean isSetting(int what) {
            return what >= 0 && what < SETTINGS;
        }

        static boolean inRange(int what, double value) {
            switch (what) {
                case GUARD:
                    return value >= 0.0 && value <= 1.0;
                case RATIO:
                    return value >= 1.5 && value <= 10.0;
                default:
                    return value >= -0.95 && value <= 0.95;
            }
        }

        Row rowAt(int row) {
            return row == 0 ? first : second;
        }

        int manyNumbers() {
            return first.length + second.length;
        }

        void copyFrom(State other) {
            first.copyFrom(other.first);
            second.copyFrom(other.second);
            System.arraycopy(other.settings, 0, settings, 0, SETTINGS);
            bridging = other.bridging;
        }
    }

    /** The latest states, in a ring that drops the oldest one. */
    private static final class History {
        private static final int MOST = 4;

        private final State[] ring = new State[MOST];
        private int oldest = 0;
        int size = 0;

        History() {
            for (int i = 0; i < MOST; i++) {
                ring[i] = new State();
            }
        }

        void remember(State state) {
            if (size == MOST) {
                oldest = (oldest + 1) % MOST;
                size--;
            }
            ring[(oldest + size) % MOST].copyFrom(state);
            size++;
        }

        /** Removes the latest state and makes the other one like it; for a history with states. */
        void bringBack(State state) {
            size--;
            state.copyFrom(ring[(oldest + size) % MOST]);
        }
    }

    /** The text that is typed, and the numbers in it. */
    private static final class Text {
        static final int MOST = 60;
        private static final int FAULT = -100;
        private static final int MOST_DIGITS = 6;

        private final char[] characters = new char[MOST];
        int length = 0;
        /** Where the reading stands; where it stops, if there is a fault. */
        private int at = 0;
        private long digits = 0L;

        /** Puts a character behind the text, if there is room. */
        void append(char character) {
            if (length < MOST) {
                characters[length] = character;
                length++;
            }
        }

        /**
         * Makes the row the numbers of the text, as many as it has room for.
         * Tells how many there are, or -100 minus the fault.
         */
        int parseInto(Row target) {
            at = 0;
            target.length = 0;
            for (int many = 1; many <= MOST; many++) {
                if (!parseNumber(target)) {
                    return FAULT - at;
                }
                if (at == length) {
                    return many;
                }
                if (!isHere(',')) {
                    return FAULT - at;
                }
                at++;
            }
            return FAULT - at;
        }

        private boolean isHere(char character) {
            return at < length && characters[at] == character;
        }

        private boolean isDigitHere() {
            return at < length && characters[at] >= '0' && characters[at] <= '9';
        }

        /** Tells whether there is a number; if not, the reading stands at the fault. */
        private boolean parseNumber(Row target) {
            digits = 0L;
            boolean minus = isHere('-');
            if (minus) {
                at++;
            }
            if (!parseDigits(isHere('0') ? 1 : MOST_DIGITS)) {
                return false;
            }
            int point = at;
            if (isHere('.')) {
                at++;
                point = at;
                if (!parseDigits(MOST_DIGITS)) {
                    return false;
                }
            }
            double value = (double) digits / (double) tenToThe(at - point);
            target.append(minus ? 0.0 - value : value);
            return true;
        }

        /** Reads digits, so many at most; tells whether there was one. */
        private boolean parseDigits(int most) {
            int from = at;
            for (int i = 0; i < most && isDigitHere(); i++) {
                digits = digits * 10L + (long) (characters[at] - '0');
                at++;
            }
            return at > from;
        }

        private static long tenToThe(int power) {
            long outcome = 1L;
            for (int i = 0; i < power; i++) {
                outcome = outcome * 10L;
            }
            return outcome;
        }
    }

    /** Rows that are made of sums and of differences. */
    private static final class Sums {
        static void fillSeries(Row target, int series, int many, double factor) {
            target.length = 0;
            double total = 0.0;
            double power = 1.0;
            for (int k = 1; k <= many; k++) {
                double term = termOf(series, k, power);
                boolean minus = (series == 1 || series == 2) && k % 2 == 0;
                total = minus ? total - term : total + term;
                target.append(total);
                power = power * factor;
            }
        }

        /** The size of the term k; the power is that of the factor to k - 1. */
        private static double termOf(int series, int k, double power) {
            double index = (double) k;
            switch (series) {
                case 0:
                    return 1.0 / (index * index);
                case 1:
                    return 1.0 / index;
                case 2:
                    return 1.0 / (2.0 * index - 1.0);
                case 3:
                    return power;
                default:
                    return power / index;
            }
        }

        /** Tells whether none of the sums would be refused. */
        static boolean sumUp(Row source, Row target) {
            target.length = 0;
            double total = 0.0;
            for (int i = 0; i < source.length; i++) {
                total = total + source.numbers[i];
                if (!Numbers.fitsRow(total)) {
                    return false;
                }
                target.append(total);
            }
            return true;
        }

        /** Tells whether none of the differences would be refused. */
        static boolean takeDifferences(Row source, Row target) {
            target.length = 0;
            for (int i = 0; i < source.length; i++) {
                double value = source.numbers[i];
                if (i > 0) {
                    value = value - source.numbers[i - 1];
                }
                if (!Numbers.fitsRow(value)) {
                    return false;
                }
                target.append(value);
            }
            return true;
        }
    }

    /**
     * The entries of one table of one row. There is one grid for all tables:
     * it is built anew for each call that asks for a table.
     */
    private static final class Grid {
        private static final int PLAIN = 0;
        private static final int BRIDGED = 1;
        private static final int BROKEN = 2;
        private static final int BROKEN_BY_OTHER = 3;

        /** The entry of the column c at the place n stands at c * ROOM + n. */
        private final double[] values = new double[ROOM * ROOM];
        private final int[] kinds = new int[ROOM * ROOM];
        private int table = 0;
        private double guard = 0.0;
        private double ratio = 0.0;
        private boolean bridging = false;
        int length = 0;
        int guessColumn = 0;
        double guessError = 0.0;
        double guessValue = 0.0;

        void build(State state, int row, int newTable) {
            Row source = state.rowAt(row);
            table = newTable;
            guard = state.settings[State.GUARD];
            ratio = state.settings[State.RATIO];
            bridging = state.bridging;
            length = source.length;
            for (int place = 0; place < length; place++) {
                put(place, source.numbers[place], PLAIN);
            }
            for (int column = 1; column < ROOM; column++) {
                int many = manyIn(column, length);
                for (int place = 0; place < many; place++) {
                    makeEntry(column, place);
                }
            }
        }

        /** How many entries a column has if the row is cut to a length. */
        private int manyIn(int column, int cut) {
            int many = table == 2 ? cut - 2 * column : cut - column;
            return many < 0 ? 0 : many;
        }

        private void put(int at, double value, int newKind) {
            values[at] = value;
            kinds[at] = newKind;
        }

        private void makeEntry(int column, int place) {
            int at = column * ROOM + place;
            if (restsOnBroken(column, at - ROOM)) {
                put(at, 0.0, BROKEN_BY_OTHER);
            } else if (table == 2) {
                makeOfThree(at);
            } else if (table == 3) {
                makeByRatio(column, at);
            } else {
                makeByInverse(column, at);
            }
        }

        /** Tells whether an entry is broken of which one is made; near is the first of them. */
        private boolean restsOnBroken(int column, int near) {
            if (kinds[near] >= BROKEN || kinds[near + 1] >= BROKEN) {
                return true;
            }
            if (table == 2) {
                return kinds[near + 2] >= BROKEN;
            }
            return table < 2 && column >= 2 && kinds[near - ROOM + 1] >= BROKEN;
        }

        /** An entry of the tables 0 and 1. */
        private void makeByInverse(int column, int at) {
            int near = at - ROOM;
            double base = column >= 2 ? values[near - ROOM + 1] : 0.0;
            double divisor = values[near + 1] - values[near];
            if (isTooSmall(divisor)) {
                putUndivided(at, base + 0.0);
                return;
            }
            double top = table == 0 ? 1.0 : (double) column;
            putIfFinite(at, base + top / divisor);
        }

        /** An entry of the table 2. */
        private void makeOfThree(int at) {
            int near = at - ROOM;
            double base = values[near];
            double a = values[near + 1] - values[near];
            double b = values[near + 2] - values[near + 1];
            // Two infinite ones of one sign: their difference would be a NaN, which is too small.
            if (!Numbers.isFinite(a) && a == b || isTooSmall(b - a)) {
                putUndivided(at, base - 0.0);
                return;
            }
            double top = a * a;
            double divisor = b - a;
            // Two infinite ones: their quotient would be a NaN, and the entry not finite.
            if (!Numbers.isFinite(top) && !Numbers.isFinite(divisor)) {
                put(at, 0.0, BROKEN);
                return;
            }
            putIfFinite(at, base - top / divisor);
        }

        /** An entry of the table 3. */
        private void makeByRatio(int column, int at) {
            int near = at - ROOM;
            double base = values[near + 1];
            double power = ratio;
            for (int i = 1; i < column; i++) {
                power = power * ratio;
            }
            double divisor = power - 1.0;
            if (isTooSmall(divisor)) {
                putUndivided(at, base + 0.0);
                return;
            }
            putIfFinite(at, base + (base - values[near]) / divisor);
        }

        /** Asked so that a NaN is too small. */
        private boolean isTooSmall(double divisor) {
            return !(Numbers.sizeOf(divisor) > guard);
        }

        /** Puts an entry whose divisor is too small; the value is that of a bridged one. */
        private void putUndivided(int at, double value) {
            put(at, bridging ? value : 0.0, bridging ? BRIDGED : BROKEN);
        }

        private void putIfFinite(int at, double value) {
            boolean finite = Numbers.isFinite(value);
            put(at, finite ? value : 0.0, finite ? PLAIN : BROKEN);
        }

        boolean hasEntry(int column, int place) {
            return column >= 0 && column < ROOM && place >= 0 && place < manyIn(column, length);
        }

        boolean isBroken(int column, int place) {
            return kindAt(column, place) >= BROKEN;
        }

        /** The kind of an entry that is there. */
        int kindAt(int column, int place) {
            return kinds[column * ROOM + place];
        }

        /** The value of an entry that is there and not broken. */
        double valueAt(int column, int place) {
            return values[column * ROOM + place];
        }

        /** Makes the row the entries of a column that a row takes. */
        void copyColumn(int column, Row target) {
            target.length = 0;
            int many = manyIn(column, length);
            for (int place = 0; place < many; place++) {
                if (!isBroken(column, place) && Numbers.fitsRow(valueAt(column, place))) {
                    target.append(valueAt(column, place));
                }
            }
        }

        int manyColumns() {
            int many = 0;
            for (int column = 0; column < ROOM; column++) {
                many += manyIn(column, length) > 0 ? 1 : 0;
            }
            return many;
        }

        int manyBroken() {
            return manyOfKinds(BROKEN, BROKEN_BY_OTHER);
        }

        int manyBridged() {
            return manyOfKinds(BRIDGED, BRIDGED);
        }

        private int manyOfKinds(int from, int to) {
            int many = 0;
            for (int column = 0; column < ROOM; column++) {
                many += manyInColumn(column, from, to);
            }
            return many;
        }

        private int manyInColumn(int column, int from, int to) {
            int many = 0;
            int places = manyIn(column, length);
            for (int place = 0; place < places; place++) {
                int found = kindAt(column, place);
                many += found >= from && found <= to ? 1 : 0;
            }
            return many;
        }

        int lowestBroken() {
            for (int column = 0; column < ROOM; column++) {
                if (manyInColumn(column, BROKEN, BROKEN_BY_OTHER) > 0) {
                    return column;
                }
            }
            return NONE;
        }

        /** The place of the end of a column if the row is cut to a length; -1 without one. */
        private int endOf(int column, int cut) {
            for (int place = manyIn(column, cut) - 1; place >= 0; place--) {
                if (!isBroken(column, place)) {
                    return place;
                }
            }
            return -1;
        }

        /**
         * Finds the guess of the row cut to a length from 0 to its own; tells
         * whether it has an error.
         */
        boolean seekGuess(int cut) {
            int step = table < 2 ? 2 : 1;
            boolean found = false;
            guessColumn = 0;
            guessError = 0.0;
            guessValue = cut > 0 ? values[cut - 1] : 0.0;
            for (int column = step; column < ROOM; column += step) {
                int end = endOf(column, cut);
                int before = endOf(column - step, cut);
                if (end < 0 || before < 0) {
                    continue;
                }
                double value = valueAt(column, end);
                double away = Numbers.sizeOf(value - valueAt(column - step, before));
                if (!found || away < guessError) {
                    found = true;
                    guessColumn = column;
                    guessError = away;
                    guessValue = value;
                }
            }
            return found;
        }
    }
}
