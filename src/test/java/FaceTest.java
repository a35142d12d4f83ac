import java.lang.reflect.Constructor;
import java.lang.reflect.Field;
import java.lang.reflect.Method;
import java.lang.reflect.Modifier;
import java.util.Arrays;
import java.util.Set;
import java.util.TreeSet;

/** The public face is the document's, and nothing besides can be seen from outside. */
public final class FaceTest {
    private static final String[] METHODS = {
        "string(1)", "clear(0)", "neck(1)", "capo(1)", "weight(2)", "event(1)", "pitch(1)", "bind(3)",
        "drop(0)", "told(1)", "at(2)", "bound(2)", "fret(2)", "grips(1)", "grip(3)", "plan(0)",
        "planned(2)", "ties(0)", "sign(1)", "tape(1)", "empty(0)", "write(0)", "read(0)", "place(0)"};

    public static void main(String[] args) {
        Check check = new Check();
        check.due("modifiers", FretHands.class.getModifiers(), Modifier.PUBLIC | Modifier.FINAL);
        check.due("methods", openMethods(check).toString(), new TreeSet<>(Arrays.asList(METHODS)).toString());
        check.due("constants", openFields().toString(), "[NONE, OUTSIDE, ROOM, STATE, UNKNOWN]");
        Constructor<?>[] made = FretHands.class.getDeclaredConstructors();
        check.due("constructors", made.length, 1);
        check.due("its parameters", made[0].getParameterCount(), 0);
        check.due("NONE", FretHands.NONE, -1);
        check.due("OUTSIDE", FretHands.OUTSIDE, -2);
        check.due("UNKNOWN", FretHands.UNKNOWN, -3);
        check.due("STATE", FretHands.STATE, -4);
        check.due("ROOM", FretHands.ROOM, -5);
        check.end("FaceTest");
    }

    private static Set<String> openMethods(Check check) {
        Set<String> names = new TreeSet<>();
        for (Method method : FretHands.class.getDeclaredMethods()) {
            if (Modifier.isPrivate(method.getModifiers())) {
                continue;
            }
            names.add(method.getName() + "(" + method.getParameterCount() + ")");
            check.due("what " + method.getName() + " answers is int", method.getReturnType() == int.class ? 1 : 0, 1);
        }
        return names;
    }

    private static Set<String> openFields() {
        Set<String> names = new TreeSet<>();
        for (Field field : FretHands.class.getDeclaredFields()) {
            if (!Modifier.isPrivate(field.getModifiers())) {
                names.add(field.getName());
            }
        }
        return names;
    }
}
