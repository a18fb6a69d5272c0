import java.lang.reflect.Constructor;
import java.lang.reflect.Field;
import java.lang.reflect.Method;
import java.lang.reflect.Modifier;
import java.util.Set;
import java.util.TreeSet;

/** The public face: the document's members and, beside them, private ones only. */
public final class FaceTest {
    private static final Set<String> METHODS = Set.of(
        "append/2", "steady/4", "dropOldest/0", "unappend/0", "points/0", "time/1",
        "value/1", "size/1", "packed/0", "firstFrom/1", "count/2", "sum/2",
        "greatest/2", "least/2", "valueAt/1", "rises/0", "widestGap/0");
    private static final Set<String> CONSTANTS = Set.of("BAD_ARG", "FULL", "NONE");

    public static void main(String[] args) {
        Check check = new Check();
        int kind = SeriesCodec.class.getModifiers();
        check.holds("public final class", Modifier.isPublic(kind) && Modifier.isFinal(kind));
        constants(check);
        constructors(check);
        methods(check);
        check.finish();
    }

    private static void constants(Check check) {
        check.due("BAD_ARG", SeriesCodec.BAD_ARG, -1);
        check.due("FULL", SeriesCodec.FULL, -2);
        check.due("NONE", SeriesCodec.NONE, -4);
        for (Field field : SeriesCodec.class.getDeclaredFields()) {
            boolean open = CONSTANTS.contains(field.getName());
            int kind = field.getModifiers();
            check.holds("field " + field, open ? Modifier.isPublic(kind) : Modifier.isPrivate(kind));
        }
    }

    private static void constructors(Check check) {
        Constructor<?>[] all = SeriesCodec.class.getDeclaredConstructors();
        check.due("number of constructors", all.length, 1);
        check.due("its parameters", all[0].getParameterCount(), 0);
        check.holds("public constructor", Modifier.isPublic(all[0].getModifiers()));
    }

    private static void methods(Check check) {
        Set<String> open = new TreeSet<>();
        Set<String> openNames = new TreeSet<>();
        Set<String> hiddenNames = new TreeSet<>();
        for (Method method : SeriesCodec.class.getDeclaredMethods()) {
            if (Modifier.isPrivate(method.getModifiers())) {
                hiddenNames.add(method.getName());
                continue;
            }
            check.holds("public " + method, Modifier.isPublic(method.getModifiers()));
            check.holds("int " + method, method.getReturnType() == int.class);
            for (Class<?> parameter : method.getParameterTypes()) {
                check.holds("int parameters of " + method, parameter == int.class);
            }
            open.add(method.getName() + "/" + method.getParameterCount());
            openNames.add(method.getName());
        }
        check.holds("the document's methods, not " + open, open.equals(METHODS));
        hiddenNames.retainAll(openNames);
        check.holds("no private method named as a public one: " + hiddenNames, hiddenNames.isEmpty());
    }
}
