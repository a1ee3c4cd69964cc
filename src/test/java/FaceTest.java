import java.lang.reflect.Constructor;
import java.lang.reflect.Field;
import java.lang.reflect.Method;
import java.lang.reflect.Modifier;
import java.util.Set;
import java.util.TreeSet;

/** The public face of the document, and the rules of LANGUAGE.md that a compiled class can show. */
public final class FaceTest {
    private static final Checks CHECKS = new Checks();

    private static final Set<String> FACE = Set.of(
            "int write(int,int)", "int read(int)", "int trim(int)", "int turn(int,int)", "int repair(int)",
            "void power()", "void tidy(int)", "int written()", "int damaged()", "int sum()");

    public static void main(String[] args) {
        constants();
        theClass();
        methods();
        fields();
        noCallThrows();
        CHECKS.end();
    }

    private static void constants() {
        CHECKS.due("BAD", CardFlash.BAD, -1);
        CHECKS.due("EMPTY", CardFlash.EMPTY, -2);
        CHECKS.due("DAMAGED", CardFlash.DAMAGED, -3);
    }

    private static void theClass() {
        int modifiers = CardFlash.class.getModifiers();
        CHECKS.holds("the class is public", Modifier.isPublic(modifiers));
        CHECKS.holds("the class is final", Modifier.isFinal(modifiers));
        CHECKS.due("nested classes", CardFlash.class.getDeclaredClasses().length, 0);
        Constructor<?>[] constructors = CardFlash.class.getDeclaredConstructors();
        CHECKS.due("constructors", constructors.length, 1);
        CHECKS.holds("the constructor is public", Modifier.isPublic(constructors[0].getModifiers()));
        CHECKS.due("parameters of the constructor", constructors[0].getParameterCount(), 0);
    }

    private static void methods() {
        Set<String> seen = new TreeSet<>();
        Set<String> publicNames = new TreeSet<>();
        for (Method method : CardFlash.class.getDeclaredMethods()) {
            if (!Modifier.isPrivate(method.getModifiers())) {
                seen.add(signature(method));
                publicNames.add(method.getName());
                CHECKS.holds(method + " is public", Modifier.isPublic(method.getModifiers()));
                CHECKS.holds(method + " is not static", !Modifier.isStatic(method.getModifiers()));
            }
        }
        CHECKS.holds("the methods " + seen + " are those of the face", seen.equals(FACE));
        for (Method method : CardFlash.class.getDeclaredMethods()) {
            if (Modifier.isPrivate(method.getModifiers())) {
                CHECKS.holds(method + " bears a name of its own", !publicNames.contains(method.getName()));
            }
        }
    }

    private static String signature(Method method) {
        StringBuilder text = new StringBuilder(method.getReturnType().getName());
        text.append(' ').append(method.getName()).append('(');
        String comma = "";
        for (Class<?> type : method.getParameterTypes()) {
            text.append(comma).append(type.getName());
            comma = ",";
        }
        return text.append(')').toString();
    }

    private static void fields() {
        Set<String> seen = new TreeSet<>();
        for (Field field : CardFlash.class.getDeclaredFields()) {
            int modifiers = field.getModifiers();
            if (!Modifier.isPrivate(modifiers)) {
                seen.add(field.getName());
                CHECKS.holds(field + " is a public constant",
                        Modifier.isPublic(modifiers) && Modifier.isStatic(modifiers) && field.getType() == int.class);
            }
            if (Modifier.isStatic(modifiers)) {
                CHECKS.holds(field + " is a constant of int or long", Modifier.isFinal(modifiers)
                        && (field.getType() == int.class || field.getType() == long.class));
            }
            Class<?> element = field.getType().isArray() ? field.getType().getComponentType() : field.getType();
            CHECKS.holds(field + " has a type of rule 2",
                    element.isPrimitive() && element != float.class && element != double.class);
        }
        CHECKS.holds("the constants " + seen + " are those of the face",
                seen.equals(Set.of("BAD", "EMPTY", "DAMAGED")));
    }

    /** Rule 7 has no bound of 512 calls: the answers after it are free, but each call must give one. */
    private static void noCallThrows() {
        int[] numbers = {0, 15, 16, 21, 22, 32, -1, -32, Integer.MAX_VALUE, Integer.MIN_VALUE};
        CardFlash x = new CardFlash();
        for (int round = 0; round < 100; round++) {
            for (int first : numbers) {
                for (int second : numbers) {
                    x.write(first, second);
                    x.turn(first, second);
                    x.tidy(second);
                }
                x.read(first);
                x.repair(first);
                x.trim(first);
                x.power();
                x.written();
                x.damaged();
                x.sum();
            }
        }
    }
}
