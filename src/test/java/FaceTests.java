import java.io.IOException;
import java.lang.reflect.Constructor;
import java.lang.reflect.Field;
import java.lang.reflect.Method;
import java.lang.reflect.Modifier;
import java.nio.file.Files;
import java.nio.file.Path;
import java.util.Arrays;
import java.util.Set;
import java.util.TreeSet;
import java.util.regex.Matcher;
import java.util.regex.Pattern;

/** The face is the document's, and the file keeps to what can be seen of ../shared/LANGUAGE.md. */
final class FaceTests {
    private static final Checks CHECKS = new Checks();
    private static final String FACE = "add(int,long)int best(int)int bridge(boolean)int clearText()int count(int)int "
            + "cut(int,int)int differences(int)int entry(int,int,int,int)double error(int,int)double "
            + "fill(int,int,int)int guess(int,int)double keep()int kind(int,int,int,int)int needed(int,int,long)int "
            + "number(int,int)double read(int)int restore()int set(int,int,long)int setting(int,long)int "
            + "spread(int)double sum(int)int table(int,int,int)int take(int,int,int)int told(int)double "
            + "type(char)int undo()int";

    public static void main(String[] args) throws IOException {
        face();
        names();
        source(Files.readString(Path.of(args[0])));
        CHECKS.end("FaceTests");
    }

    private static void face() {
        Set<String> methods = new TreeSet<>();
        for (Method method : LimitTables.class.getDeclaredMethods()) {
            if (Modifier.isPublic(method.getModifiers())) {
                methods.add(signature(method));
            } else {
                CHECKS.due(method.getName() + " is private", method.getModifiers() & Modifier.PRIVATE, Modifier.PRIVATE);
            }
        }
        CHECKS.dueText("the public methods", String.join(" ", methods), FACE);
        Set<String> fields = new TreeSet<>();
        for (Field field : LimitTables.class.getDeclaredFields()) {
            if (!Modifier.isPrivate(field.getModifiers())) {
                fields.add(Modifier.toString(field.getModifiers()) + " " + field.getType() + " " + field.getName());
            }
        }
        String constant = "public static final int ";
        CHECKS.dueText("the public fields", String.join(", ", fields), constant + "BAD_VALUE, " + constant + "FULL, "
                + constant + "NONE, " + constant + "NOT_POSSIBLE, " + constant + "UNKNOWN");
        Constructor<?>[] constructors = LimitTables.class.getDeclaredConstructors();
        CHECKS.due("constructors", constructors.length, 1);
        CHECKS.due("without parameters", constructors[0].getParameterCount(), 0);
        CHECKS.dueText("the class", Modifier.toString(LimitTables.class.getModifiers()), "public final");
    }

    private static String signature(Method method) {
        StringBuilder text = new StringBuilder(method.getName()).append('(');
        Class<?>[] types = method.getParameterTypes();
        for (int i = 0; i < types.length; i++) {
            text.append(i > 0 ? "," : "").append(types[i].getName());
        }
        return text.append(')').append(method.getReturnType().getName()).toString();
    }

    private static void names() {
        for (Class<?> inner : LimitTables.class.getDeclaredClasses()) {
            CHECKS.due(inner + " is static", inner.getModifiers() & Modifier.STATIC, Modifier.STATIC);
            for (Method method : inner.getDeclaredMethods()) {
                boolean taken = (" " + FACE).contains(" " + method.getName() + "(");
                CHECKS.dueText(method.getName() + " is a name of the face", String.valueOf(taken), "false");
            }
            for (Field field : inner.getDeclaredFields()) {
                boolean staticDouble = Modifier.isStatic(field.getModifiers())
                        && !Arrays.asList(int.class, long.class).contains(field.getType());
                CHECKS.dueText(field.getName() + " is a static double", String.valueOf(staticDouble), "false");
            }
        }
        CHECKS.dueText("at most 12 classes", String.valueOf(LimitTables.class.getDeclaredClasses().length < 12), "true");
    }

    private static void source(String whole) {
        String code = whole.replaceAll("(?s)/\\*.*?\\*/", " ").replaceAll("//[^\n]*", " ");
        String[] never = {"import", "package", "try", "catch", "throw", "finally", "synchronized", "assert", "protected",
            "float", "instanceof", "interface", "var", "record"};
        for (String sign : new String[] {"->", "::", "\"", "Exact"}) {
            CHECKS.dueText("the code has " + sign, String.valueOf(code.contains(sign)), "false");
        }
        for (String word : never) {
            CHECKS.dueText("the code has " + word, 
                    String.valueOf(Pattern.compile("\\b" + word + "\\b").matcher(code).find()), "false");
        }
        Set<String> library = new TreeSet<>();
        Matcher used = Pattern.compile("\\b(System|Math|Double|Integer|Long|Arrays|String|Character|Float|Object)\\b"
                + "(\\.\\w+)?").matcher(code);
        while (used.find()) {
            library.add(used.group());
        }
        // Double.NaN is a constant of the language's compiler: no operation may answer the NaN that the document asks for.
        CHECKS.dueText("what is used of the library", library.toString(), "[Double.NaN, System.arraycopy]");
    }
}
