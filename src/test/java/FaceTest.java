import java.lang.reflect.Constructor;
import java.lang.reflect.Field;
import java.lang.reflect.Method;
import java.lang.reflect.Modifier;
import java.util.Arrays;
import java.util.Set;
import java.util.TreeSet;

/** The public face of the document, and nothing else that can be seen from outside (LANGUAGE.md, rules 1, 5). */
public final class FaceTest {
    private static final String[] METHODS = {
        "add(int,int):int", "set(int,int,int):int", "property(int,int):int", "depend(int,int,int,int):int",
        "clear(int):int", "dependency(int,int,int):int", "profile(int,boolean):boolean", "components():int",
        "candidates(int,int):int", "chosen(int,int):int", "problem(int):int", "needs(int):int",
        "resolve(int,int):int", "provide(int,int):int", "start():int", "begin():int", "end():int", "close():int",
        "instances():int", "componentOf(int):int", "isAlive(int):boolean", "injected(int,int):int",
        "event(int):int", "failureKind():int", "failureDetail():int", "failureChain(int):int"};

    public static void main(String[] args) {
        Check check = new Check("FaceTest");
        constants(check);
        members(check);
        check.finish();
    }

    private static void constants(Check check) {
        int[] properties = {ComponentContainer.TYPES, ComponentContainer.SCOPE, ComponentContainer.QUALIFIER,
            ComponentContainer.PRIMARY, ComponentContainer.LAZY, ComponentContainer.PROFILE,
            ComponentContainer.FAIL_AT};
        int[] scopes = {ComponentContainer.SINGLETON, ComponentContainer.PROTOTYPE, ComponentContainer.SCOPED};
        int[] modes = {ComponentContainer.REQUIRED, ComponentContainer.OPTIONAL, ComponentContainer.ALL,
            ComponentContainer.LATER};
        int[] kinds = {ComponentContainer.NO_CANDIDATE, ComponentContainer.AMBIGUOUS, ComponentContainer.CYCLE,
            ComponentContainer.NO_SCOPE, ComponentContainer.LIMIT, ComponentContainer.BROKEN};
        ascending(check, "properties", properties, 0);
        ascending(check, "scopes", scopes, 0);
        ascending(check, "modes", modes, 0);
        ascending(check, "kinds", kinds, 1);
        check.same("NONE", ComponentContainer.NONE, -1);
    }

    private static void ascending(Check check, String what, int[] values, int first) {
        for (int i = 0; i < values.length; i++) {
            check.same(what + " " + i, values[i], first + i);
        }
    }

    private static void members(Check check) {
        Class<?> face = ComponentContainer.class;
        check.same("public final", Modifier.isPublic(face.getModifiers()) && Modifier.isFinal(face.getModifiers()),
                true);
        Set<String> due = new TreeSet<>(Arrays.asList(METHODS));
        Set<String> publicNames = new TreeSet<>();
        for (String method : METHODS) {
            publicNames.add(method.substring(0, method.indexOf('(')));
        }
        for (Method method : face.getDeclaredMethods()) {
            boolean isPrivate = Modifier.isPrivate(method.getModifiers());
            boolean fits = isPrivate ? !publicNames.contains(method.getName()) : due.remove(describe(method));
            check.same("method " + describe(method) + " has its place", fits, true);
        }
        check.same("methods that are missing: " + due, due.size(), 0);
        int constants = 0;
        for (Field field : face.getDeclaredFields()) {
            int modifiers = field.getModifiers();
            boolean isConstant = Modifier.isPublic(modifiers) && Modifier.isStatic(modifiers)
                    && Modifier.isFinal(modifiers);
            constants += isConstant ? 1 : 0;
            boolean fits = isConstant || Modifier.isPrivate(modifiers);
            check.same("field " + field.getName() + " has its place", fits, true);
        }
        check.same("public constants", constants, 21);
        Constructor<?>[] constructors = face.getDeclaredConstructors();
        check.same("constructors", constructors.length, 1);
        check.same("the constructor is public", Modifier.isPublic(constructors[0].getModifiers()), true);
        check.same("its parameters", constructors[0].getParameterCount(), 0);
    }

    private static String describe(Method method) {
        StringBuilder text = new StringBuilder(method.getName()).append('(');
        for (Class<?> parameter : method.getParameterTypes()) {
            text.append(text.charAt(text.length() - 1) == '(' ? "" : ",").append(parameter.getName());
        }
        return text.append("):").append(method.getReturnType().getName()).toString();
    }
}
