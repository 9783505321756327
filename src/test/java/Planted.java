import java.lang.reflect.Field;
import java.lang.reflect.Method;

/**
 * Rows that no call lets in. From rows of sizes up to 1.0E9 no calls lead to a
 * divisor that is a NaN or to an error that is infinite (NOTES.md says why), so
 * what the document says of those can only be tested with planted numbers.
 */
final class Planted {
    private Planted() {
    }

    static LimitTables with(double... numbers) {
        LimitTables x = new LimitTables();
        try {
            Object state = field(x, "state").get(x);
            Method rowAt = state.getClass().getDeclaredMethod("rowAt", int.class);
            rowAt.setAccessible(true);
            Object row = rowAt.invoke(state, 0);
            double[] planted = (double[]) field(row, "numbers").get(row);
            System.arraycopy(numbers, 0, planted, 0, numbers.length);
            field(row, "length").setInt(row, numbers.length);
        } catch (ReflectiveOperationException missing) {
            throw new IllegalStateException("the class is made otherwise: " + missing);
        }
        return x;
    }

    private static Field field(Object owner, String name) throws ReflectiveOperationException {
        Field field = owner.getClass().getDeclaredField(name);
        field.setAccessible(true);
        return field;
    }
}
