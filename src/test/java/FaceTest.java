import java.lang.reflect.Constructor;
import java.lang.reflect.Field;
import java.lang.reflect.Method;
import java.lang.reflect.Modifier;
import java.util.Set;
import java.util.TreeSet;

/** The class has the document's face and no more. */
public final class FaceTest {
    private static final Set<String> FACE = Set.of(
            "int ask(int,int,int)", "int send(int,int)", "int timer(int)", "int deliver(int)",
            "boolean drop(int)", "boolean copy(int)", "boolean crash(int)", "boolean restart(int)",
            "int cut(int)", "boolean fetch(int,int)", "int waiting()", "int message(int,int)",
            "int look(int,int)", "int value(int,int)", "int vote(int,int)", "int reply(int)",
            "int heard(int)");

    public static void main(String[] args) {
        Check check = new Check("FaceTest");
        Class<?> face = MajorityMap.class;
        check.due("public final", face.getModifiers() & (Modifier.PUBLIC | Modifier.FINAL),
                Modifier.PUBLIC | Modifier.FINAL);
        check.due("in no package", face.getPackageName().isEmpty(), true);

        Constructor<?>[] made = face.getDeclaredConstructors();
        check.due("constructors", made.length, 1);
        check.due("public constructor", Modifier.isPublic(made[0].getModifiers()), true);
        check.due("constructor's parameters", made[0].getParameterCount(), 0);

        Set<String> seen = new TreeSet<>();
        Set<String> publicNames = new TreeSet<>();
        for (Method method : face.getDeclaredMethods()) {
            if (!Modifier.isPrivate(method.getModifiers()) && !method.isSynthetic()) {
                seen.add(describe(method));
                publicNames.add(method.getName());
            }
        }
        check.due("the visible methods " + seen + " are the face", seen.equals(new TreeSet<>(FACE)), true);
        checkPrivateNames(check, face, publicNames);
        for (Class<?> inside : face.getDeclaredClasses()) {
            check.due(inside + " is static", Modifier.isStatic(inside.getModifiers()), true);
            checkPrivateNames(check, inside, publicNames);
        }
        check.due("at most twelve classes", face.getDeclaredClasses().length < 12, true);
        check.end();
    }

    private static void checkPrivateNames(Check check, Class<?> owner, Set<String> publicNames) {
        for (Field field : owner.getDeclaredFields()) {
            boolean isState = Modifier.isStatic(field.getModifiers()) && !Modifier.isFinal(field.getModifiers());
            check.due(owner + "." + field.getName() + " is static state", isState, false);
        }
        for (Field field : MajorityMap.class.getDeclaredFields()) {
            check.due(field.getName() + " is private", Modifier.isPrivate(field.getModifiers()), true);
        }
        for (Method method : owner.getDeclaredMethods()) {
            if (owner != MajorityMap.class || Modifier.isPrivate(method.getModifiers())) {
                check.due(owner + "." + method.getName() + " bears a public name",
                        publicNames.contains(method.getName()), false);
            }
        }
    }

    private static String describe(Method method) {
        StringBuilder text = new StringBuilder();
        text.append(method.getReturnType().getName()).append(' ').append(method.getName()).append('(');
        String comma = "";
        for (Class<?> parameter : method.getParameterTypes()) {
            text.append(comma).append(parameter.getName());
            comma = ",";
        }
        return text.append(')').toString();
    }
}
