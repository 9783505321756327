import java.util.function.Supplier;
import java.util.function.ToDoubleFunction;

/** What the tests by sentences have in common. */
abstract class Boundaries {
    static final double NAN = Double.NaN;
    static final double INFINITE = Double.POSITIVE_INFINITY;
    static final int LEAST = Integer.MIN_VALUE;
    static final int MOST = Integer.MAX_VALUE;
    static final int[] NO_ROWS = {-1, 2, 3, LEAST, MOST, 256, 1 << 30};
    static final int[] NO_TABLES = {-1, 4, 5, LEAST, MOST, 256, 1 << 30};
    static final long MINUS_ZERO = Long.MIN_VALUE;
    /** Not finite, or of a size greater than 1.0E9: what no row takes. */
    static final long[] REFUSED = {
        bits(INFINITE), bits(-INFINITE), bits(Math.nextUp(1.0E9)), bits(Math.nextDown(-1.0E9)), bits(1.0E10),
        bits(Double.MAX_VALUE), bits(-Double.MAX_VALUE), bits(NAN), 0x7FF0000000000001L, 0xFFF0000000000001L,
        0x7FFFFFFFFFFFFFFFL, 0xFFFFFFFFFFFFFFFFL};

    private final Sentences sentences;

    Boundaries(Sentences sentences) {
        this.sentences = sentences;
    }

    abstract void all();

    final void promise(int number, String sentence, Runnable test) {
        sentences.promise(number, sentence, test);
    }

    final void term(String heading, String shows, String sentence, Runnable test) {
        sentences.term(heading, shows, sentence, test);
    }

    final void untested(String heading, String sentence) {
        sentences.untested(heading, sentence);
    }

    final void due(String what, long got, long want) {
        sentences.due(what, got, want);
    }

    final void dueD(String what, double got, double want) {
        sentences.dueD(what, got, want);
    }

    final void dueText(String what, String got, String want) {
        sentences.dueText(what, got, want);
    }

    final void dueRow(String what, LimitTables x, int row, double... numbers) {
        due(what + ": length", x.count(row), numbers.length);
        for (int place = 0; place < numbers.length; place++) {
            dueD(what + ": number " + place, x.number(row, place), numbers[place]);
        }
        dueD(what + ": behind it", x.number(row, numbers.length), NAN);
    }

    /** Makes sure that a test tells what is due from what would be due if the sentence were broken. */
    final void differ(String what, double want, double broken) {
        dueText(what + " differs from what is wrong", String.valueOf(want != broken), "true");
    }

    /** The call answers as is due and changes nothing: a twin without it tells the same ever after. */
    final void nothing(String call, Supplier<LimitTables> make, ToDoubleFunction<LimitTables> asked, double want) {
        LimitTables x = make.get();
        dueD(call, asked.applyAsDouble(x), want);
        dueText(call + ": all that is told then", Probe.deep(x), Probe.deep(make.get()));
    }

    /** The call answers as is due and is an act: it records the state that was before it. */
    final void act(String call, Supplier<LimitTables> make, ToDoubleFunction<LimitTables> asked, double want) {
        LimitTables x = make.get();
        int states = x.count(4);
        String before = Probe.shallow(x);
        dueD(call, asked.applyAsDouble(x), want);
        due(call + ": states then", x.count(4), states + 1);
        due(call + ": undo()", x.undo(), states);
        dueText(call + ": what was before it", Probe.shallow(x), before);
    }

    static long bits(double value) {
        return Double.doubleToRawLongBits(value);
    }

    static LimitTables with(double... numbers) {
        LimitTables x = new LimitTables();
        addAll(x, 0, numbers);
        return x;
    }

    static LimitTables both(double[] first, double... second) {
        LimitTables x = with(first);
        addAll(x, 1, second);
        return x;
    }

    static void addAll(LimitTables x, int row, double... numbers) {
        for (double value : numbers) {
            x.add(row, bits(value));
        }
    }

    static LimitTables full() {
        LimitTables x = new LimitTables();
        x.fill(0, 0, 16);
        return x;
    }

    static LimitTables typed(LimitTables x, String text) {
        x.clearText();
        for (int at = 0; at < text.length(); at++) {
            x.type(text.charAt(at));
        }
        return x;
    }

    static LimitTables typed(String text) {
        return typed(new LimitTables(), text);
    }

    static String times(String text, int many) {
        return text.repeat(many);
    }

    /** An object of which nothing is as it was at first; its history is full. */
    static LimitTables lived() {
        LimitTables x = new LimitTables();
        x.fill(0, 1, 5);
        x.setting(1, bits(3.0));
        x.keep();
        x.setting(0, bits(1.0E-3));
        x.add(1, bits(7.0));
        x.add(1, bits(-2.5));
        x.add(1, bits(-2.5));
        x.bridge(true);
        return typed(x, "1,-2.5");
    }
}
