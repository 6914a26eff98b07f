import java.lang.reflect.Constructor;
import java.lang.reflect.Field;
import java.lang.reflect.Member;
import java.lang.reflect.Method;
import java.lang.reflect.Modifier;
import java.util.Arrays;
import java.util.HashMap;
import java.util.List;
import java.util.Map;

/** The public face of the document, and the rules of LANGUAGE.md that can be seen from outside. */
public final class FaceTest {
    private static final List<String> METHODS = List.of(
        "void standard()", "void clear()", "boolean put(int, int)", "int start(int, int, int)",
        "int move(int, int, int)", "boolean back()", "int piece(int)", "int side()", "int rights()",
        "int passant()", "int moves()", "int legal(int)", "int attackers(int, int)", "boolean check()",
        "int verdict()", "int claims()", "int clock()", "int plies()", "int search(int)");

    public static void main(String[] args) throws ReflectiveOperationException {
        constants();
        methods();
        constructors();
        nestedClasses();
        Due.finish();
    }

    private static boolean isPublic(Member member) {
        return Modifier.isPublic(member.getModifiers());
    }

    private static boolean isHidden(Member member) {
        return Modifier.isPrivate(member.getModifiers()) || member.isSynthetic();
    }

    private static void constants() throws ReflectiveOperationException {
        Map<String, Integer> want = new HashMap<>();
        want.put("BAD", -1);
        want.put("MEN", -2);
        want.put("PAWNS", -3);
        want.put("CHECK", -4);
        want.put("RIGHTS", -5);
        want.put("PASSANT", -6);
        want.put("OVER", -7);
        int seen = 0;
        for (Field field : MateArbiter.class.getDeclaredFields()) {
            boolean isConstant = want.containsKey(field.getName());
            Due.due(field + " is public or hidden", isConstant ? isPublic(field) : isHidden(field), true);
            boolean isStatic = Modifier.isStatic(field.getModifiers());
            Due.due(field + " is final if static", !isStatic || Modifier.isFinal(field.getModifiers()), true);
            if (isConstant) {
                seen++;
                Due.due(field.getName(), field.getInt(null), want.get(field.getName()));
            }
        }
        Due.due("constants", seen, 7);
    }

    private static void methods() {
        int seen = 0;
        for (Method method : MateArbiter.class.getDeclaredMethods()) {
            String types = Arrays.toString(method.getParameterTypes()).replace("[", "(").replace("]", ")");
            boolean isPromised = METHODS.contains(method.getReturnType() + " " + method.getName() + types);
            Due.due(method + " is public or hidden", isPromised ? isPublic(method) : isHidden(method), true);
            Due.due(method + " is not static", isPromised && Modifier.isStatic(method.getModifiers()), false);
            seen += isPromised ? 1 : 0;
            for (String promised : METHODS) {
                boolean sameName = promised.contains(" " + method.getName() + "(");
                Due.due(method + " has a name of its own", sameName && !isPromised, false);
            }
        }
        Due.due("methods", seen, METHODS.size());
    }

    private static void constructors() {
        Constructor<?>[] all = MateArbiter.class.getDeclaredConstructors();
        Due.due("constructors", all.length, 1);
        Due.due("public", isPublic(all[0]), true);
        Due.due("parameters", all[0].getParameterCount(), 0);
        int modifiers = MateArbiter.class.getModifiers();
        Due.due("public class", Modifier.isPublic(modifiers), true);
        Due.due("final class", Modifier.isFinal(modifiers), true);
    }

    private static void nestedClasses() {
        for (Class<?> nested : MateArbiter.class.getDeclaredClasses()) {
            int modifiers = nested.getModifiers();
            Due.due(nested + " is static", Modifier.isStatic(modifiers), true);
            Due.due(nested + " is hidden", Modifier.isPublic(modifiers) || Modifier.isProtected(modifiers), false);
        }
        Due.due("at most twelve classes", MateArbiter.class.getDeclaredClasses().length <= 12, true);
    }
}
