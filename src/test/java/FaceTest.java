import java.lang.reflect.Constructor;
import java.lang.reflect.Field;
import java.lang.reflect.Method;
import java.lang.reflect.Modifier;
import java.util.Set;
import java.util.TreeSet;

/** The class's face is the document's, and nothing beside it can be seen from outside. */
public final class FaceTest {
    private static final Set<String> METHODS = Set.of(
        "int stop()", "int pre(int,int)", "int ext()", "int hid()", "int depth()",
        "int define(int)", "int system(int,int,int)", "int feed(int)", "int undo()", "int log()",
        "int offers()", "boolean refuses(int)", "int traces(int)", "int gap(int,int)",
        "int gapRefusal(int)", "int refined(int)", "int deadlock()", "int unsure()");
    private static final Set<String> CONSTANTS = Set.of("BAD_ARG", "FULL", "TOO_FEW", "NONE");

    private static final Check CHECK = new Check();

    public static void main(String[] args) {
        CHECK.due("public", Modifier.isPublic(CspRefiner.class.getModifiers()), true);
        CHECK.due("final", Modifier.isFinal(CspRefiner.class.getModifiers()), true);
        CHECK.due("nested classes", CspRefiner.class.getDeclaredClasses().length, 0);
        methods();
        fields();
        constructors();
        CHECK.end("FaceTest");
    }

    private static void methods() {
        Set<String> seen = new TreeSet<>();
        for (Method method : CspRefiner.class.getDeclaredMethods()) {
            if (Modifier.isPublic(method.getModifiers())) {
                seen.add(method.getReturnType() + " " + signature(method));
                CHECK.due(method + " is static", Modifier.isStatic(method.getModifiers()), false);
            } else {
                CHECK.due(method + " is private", Modifier.isPrivate(method.getModifiers()), true);
            }
        }
        CHECK.due("methods " + seen, seen.equals(METHODS), true);
    }

    private static String signature(Method method) {
        StringBuilder text = new StringBuilder(method.getName()).append('(');
        for (Class<?> type : method.getParameterTypes()) {
            text.append(text.charAt(text.length() - 1) == '(' ? "" : ",").append(type);
        }
        return text.append(')').toString();
    }

    private static void fields() {
        Set<String> seen = new TreeSet<>();
        for (Field field : CspRefiner.class.getDeclaredFields()) {
            int modifiers = field.getModifiers();
            if (Modifier.isPublic(modifiers)) {
                seen.add(field.getName());
                CHECK.due(field + " is constant",
                    Modifier.isStatic(modifiers) && Modifier.isFinal(modifiers), true);
            } else {
                CHECK.due(field + " is private", Modifier.isPrivate(modifiers), true);
            }
        }
        CHECK.due("constants " + seen, seen.equals(CONSTANTS), true);
    }

    private static void constructors() {
        Constructor<?>[] all = CspRefiner.class.getDeclaredConstructors();
        CHECK.due("constructors", all.length, 1);
        CHECK.due("its parameters", all[0].getParameterCount(), 0);
        CHECK.due("it is public", Modifier.isPublic(all[0].getModifiers()), true);
    }
}
