import java.lang.reflect.Constructor;
import java.lang.reflect.Field;
import java.lang.reflect.Method;
import java.lang.reflect.Modifier;
import java.util.Set;
import java.util.TreeSet;

/** The document's "The public face", as the compiled class shows it. */
public final class FaceTest {
    private static final Checks CHECKS = new Checks();

    public static void main(String[] args) {
        CHECKS.sentence("The public face: public final class FixnumBailout", FaceTest::theClass);
        CHECKS.sentence("The public face: the constants and their numbers", FaceTest::constants);
        CHECKS.sentence("The public face: the constructor and the methods", FaceTest::methods);
        CHECKS.finish();
    }

    private static void theClass() {
        Class<?> face = FixnumBailout.class;
        CHECKS.due("modifiers", Modifier.toString(face.getModifiers()), "public final");
        CHECKS.due("name with its package", face.getName(), "FixnumBailout");
        CHECKS.due("superclass", face.getSuperclass(), Object.class);
        CHECKS.due("interfaces", face.getInterfaces().length, 0);
        CHECKS.due("nested classes", face.getDeclaredClasses().length, 0);
    }

    private static void constants() {
        CHECKS.due("BAD_OP", FixnumBailout.BAD_OP, -1);
        CHECKS.due("BAD_ARGUMENT", FixnumBailout.BAD_ARGUMENT, -2);
        CHECKS.due("CODE_FULL", FixnumBailout.CODE_FULL, -3);
        CHECKS.due("STACK_LOW", FixnumBailout.STACK_LOW, -4);
        CHECKS.due("STACK_HIGH", FixnumBailout.STACK_HIGH, -5);
        CHECKS.due("NOT_EMPTY", FixnumBailout.NOT_EMPTY, -6);
        CHECKS.due("TOO_DEEP", FixnumBailout.TOO_DEEP, -7);
        CHECKS.due("NO_BLOCK", FixnumBailout.NO_BLOCK, -8);
        CHECKS.due("UNFINISHED", FixnumBailout.UNFINISHED, -9);
        CHECKS.due("DONE", FixnumBailout.DONE, 0);
        CHECKS.due("ZERO_DIVIDE", FixnumBailout.ZERO_DIVIDE, 1);
        CHECKS.due("TOO_BIG", FixnumBailout.TOO_BIG, 2);
        int constants = 0;
        for (Field field : FixnumBailout.class.getDeclaredFields()) {
            if (!Modifier.isPrivate(field.getModifiers())) {
                constants++;
                CHECKS.due("field", field.toString(), "public static final int FixnumBailout." + field.getName());
            }
        }
        CHECKS.due("fields that are not private", constants, 12);
    }

    private static void methods() {
        Set<String> members = new TreeSet<>();
        for (Method method : FixnumBailout.class.getDeclaredMethods()) {
            if (!Modifier.isPrivate(method.getModifiers())) {
                members.add(method.toString());
            }
        }
        for (Constructor<?> constructor : FixnumBailout.class.getDeclaredConstructors()) {
            members.add(constructor.toString());
        }
        Set<String> want = Set.of(
            "public FixnumBailout()",
            "public int FixnumBailout.emit(int,int)",
            "public void FixnumBailout.clear()",
            "public int FixnumBailout.set(int,int)",
            "public int FixnumBailout.run()",
            "public int FixnumBailout.tokens()",
            "public int FixnumBailout.sign(int)",
            "public int FixnumBailout.digits(int)",
            "public int FixnumBailout.digit(int,int)",
            "public int FixnumBailout.compare(int,int)",
            "public boolean FixnumBailout.isInt(int)",
            "public int FixnumBailout.asInt(int)");
        CHECKS.due("the members that are not private", members, new TreeSet<>(want));
    }
}
