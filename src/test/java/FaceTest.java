import java.lang.reflect.Constructor;
import java.lang.reflect.Field;
import java.lang.reflect.Method;
import java.lang.reflect.Modifier;
import java.util.Set;
import java.util.TreeSet;

/** The public face: what the document has there, and nothing else. */
public final class FaceTest {
    private static final Check CHECK = new Check();

    private static final Set<String> FACE = Set.of(
            "int want(int, int)", "boolean timeout(int, int, int)", "boolean giveUp(int, int)",
            "boolean release(int, int)", "int breakPermit(int, int)",
            "boolean order(int, int, int)", "boolean stop(int)", "boolean start(int)",
            "int letters()", "int letter(int, int)", "boolean deliver(int)", "boolean drop(int)",
            "boolean copy(int)", "int state(int, int)", "int permit(int, int)",
            "int quorumOf(int, int)", "int vote(int, int, int)", "int orders(int)",
            "int done(int, int, int)", "int highest(int)");

    public static void main(String[] args) {
        methods();
        fieldsAndConstructors();
        CHECK.end();
    }

    private static void methods() {
        Set<String> seen = new TreeSet<>();
        Set<String> names = new TreeSet<>();
        for (Method method : PermitTree.class.getDeclaredMethods()) {
            if (Modifier.isPrivate(method.getModifiers())) {
                names.add(method.getName());
                continue;
            }
            CHECK.due(method + " is public", Modifier.isPublic(method.getModifiers()), true);
            CHECK.due(method + " is static", Modifier.isStatic(method.getModifiers()), false);
            seen.add(signature(method));
        }
        CHECK.due("the methods", seen.toString(), new TreeSet<>(FACE).toString());
        for (String signature : FACE) {
            String name = signature.substring(signature.indexOf(' ') + 1, signature.indexOf('('));
            CHECK.due("a private " + name, names.contains(name), false);
        }
    }

    private static String signature(Method method) {
        StringBuilder text = new StringBuilder();
        text.append(method.getReturnType()).append(' ').append(method.getName()).append('(');
        String gap = "";
        for (Class<?> type : method.getParameterTypes()) {
            text.append(gap).append(type);
            gap = ", ";
        }
        return text.append(')').toString();
    }

    private static void fieldsAndConstructors() {
        CHECK.due("the modifiers", Modifier.toString(PermitTree.class.getModifiers()),
                "public final");
        CHECK.due("NONE", PermitTree.NONE, -1);
        for (Field field : PermitTree.class.getDeclaredFields()) {
            boolean hidden = Modifier.isPrivate(field.getModifiers());
            CHECK.due(field + " is private", hidden, !field.getName().equals("NONE"));
            if (!hidden) {
                CHECK.due("NONE is declared", field.toString(),
                        "public static final int PermitTree.NONE");
            }
        }
        Constructor<?>[] all = PermitTree.class.getDeclaredConstructors();
        CHECK.due("the constructors", all.length, 1);
        CHECK.due("its parameters", all[0].getParameterCount(), 0);
        CHECK.due("it is public", Modifier.isPublic(all[0].getModifiers()), true);
    }

    private FaceTest() {
    }
}
