import java.lang.reflect.Constructor;
import java.lang.reflect.Field;
import java.lang.reflect.Method;
import java.lang.reflect.Modifier;
import java.util.Set;
import java.util.TreeSet;

/** The public face of the document, and rules 1, 2, 5 and 10 of LANGUAGE.md as far as the compiled class shows them. */
public final class FaceTest {
    private static final Checks CHECKS = new Checks();

    public static void main(String[] args) {
        constants();
        face();
        fields();
        privateMethods();
        CHECKS.finish();
    }

    private static void constants() {
        CHECKS.due("BAD_OP", FixnumBailout.BAD_OP, -1);
        CHECKS.due("BAD_ARGUMENT", FixnumBailout.BAD_ARGUMENT, -2);
        CHECKS.due("CODE_FULL", FixnumBailout.CODE_FULL, -3);
        CHECKS.due("STACK_LOW", FixnumBailout.STACK_LOW, -4);
        CHECKS.due("STACK_HIGH", FixnumBailout.STACK_HIGH, -5);
        CHECKS.due("NOT_EMPTY", FixnumBailout.NOT_EMPTY, -6);
        CHECKS.due("TOO_DEEP", FixnumBailout.TOO_DEEP, -7);
        CHECKS.due("NO_BLOCK", FixnumBailout.NO_BLOCK, -8);
        CHECKS.due("UNFINISHED", FixnumBailout.UNFINISHED, -9);
        CHECKS.due("DONE", FixnumBailout.DONE, 0);
        CHECKS.due("ZERO_DIVIDE", FixnumBailout.ZERO_DIVIDE, 1);
        CHECKS.due("TOO_BIG", FixnumBailout.TOO_BIG, 2);
    }

    private static void face() {
        Set<String> members = new TreeSet<>();
        for (Method method : FixnumBailout.class.getDeclaredMethods()) {
            if (!Modifier.isPrivate(method.getModifiers())) {
                members.add(method.toString());
            }
        }
        for (Constructor<?> constructor : FixnumBailout.class.getDeclaredConstructors()) {
            members.add(constructor.toString());
        }
        Set<String> want = Set.of(
            "public FixnumBailout()",
            "public int FixnumBailout.emit(int,int)",
            "public void FixnumBailout.clear()",
            "public int FixnumBailout.set(int,int)",
            "public int FixnumBailout.run()",
            "public int FixnumBailout.tokens()",
            "public int FixnumBailout.sign(int)",
            "public int FixnumBailout.digits(int)",
            "public int FixnumBailout.digit(int,int)",
            "public int FixnumBailout.compare(int,int)",
            "public boolean FixnumBailout.isInt(int)",
            "public int FixnumBailout.asInt(int)");
        CHECKS.due("the members that are not private", members, new TreeSet<>(want));
        CHECKS.due("the class's modifiers", Modifier.toString(FixnumBailout.class.getModifiers()), "public final");
        CHECKS.due("nested classes", FixnumBailout.class.getDeclaredClasses().length, 0);
    }

    private static void fields() {
        Set<Class<?>> constantTypes = Set.of(int.class, long.class);
        int publicOnes = 0;
        int ofObjects = 0;
        for (Field field : FixnumBailout.class.getDeclaredFields()) {
            int modifiers = field.getModifiers();
            Class<?> type = field.getType();
            if (Modifier.isStatic(modifiers)) {
                CHECKS.due(field + " is a constant", Modifier.isFinal(modifiers) && constantTypes.contains(type), true);
            } else {
                ofObjects++;
                CHECKS.due(field + " is private", Modifier.isPrivate(modifiers), true);
                Class<?> cell = type.isArray() ? type.getComponentType() : type;
                CHECKS.due(field + " is of whole numbers",
                    cell.isPrimitive() && cell != float.class && cell != double.class, true);
            }
            if (!Modifier.isPrivate(modifiers)) {
                publicOnes++;
            }
        }
        CHECKS.due("fields that are not private", publicOnes, 12);
        CHECKS.due("at most 40 fields", ofObjects <= 40, true);
    }

    private static void privateMethods() {
        Set<String> publicNames = new TreeSet<>();
        for (Method method : FixnumBailout.class.getMethods()) {
            publicNames.add(method.getName());
        }
        for (Method method : FixnumBailout.class.getDeclaredMethods()) {
            if (Modifier.isPrivate(method.getModifiers())) {
                CHECKS.due(method + " has a public name", publicNames.contains(method.getName()), false);
                CHECKS.due(method + " has at most 7 parameters", method.getParameterCount() <= 7, true);
            }
        }
    }
}
