import java.lang.reflect.Constructor;
import java.lang.reflect.Field;
import java.lang.reflect.InvocationTargetException;
import java.lang.reflect.Method;

/**
 * Reaches into an object of MajorityMap. Some sentences of the document hold in cases that no calls bring about, or of
 * things that no call shows; only from in here can a test see whether they hold.
 */
final class Inside {
    private static final Constructor<?> NEW_MESSAGE;
    private static final Method PUT;
    private static final Method HAS;
    private static final Method AT;
    private static final Field NET;
    private static final Field REPLICAS;
    private static final Field KNOWN;

    static {
        try {
            Class<?> message = Class.forName("MajorityMap$Message");
            Class<?> commands = Class.forName("MajorityMap$Commands");
            NEW_MESSAGE = message.getDeclaredConstructor(int.class, int.class, int.class, int.class, int.class,
                    int.class);
            PUT = Class.forName("MajorityMap$Net").getDeclaredMethod("put", message);
            HAS = commands.getDeclaredMethod("has", int.class);
            AT = commands.getDeclaredMethod("at", int.class);
            NET = MajorityMap.class.getDeclaredField("net");
            REPLICAS = MajorityMap.class.getDeclaredField("replicas");
            KNOWN = Class.forName("MajorityMap$Replica").getDeclaredField("known");
        } catch (ReflectiveOperationException unknown) {
            throw new ExceptionInInitializerError(unknown);
        }
        NEW_MESSAGE.setAccessible(true);
        PUT.setAccessible(true);
        HAS.setAccessible(true);
        AT.setAccessible(true);
        NET.setAccessible(true);
        REPLICAS.setAccessible(true);
        KNOWN.setAccessible(true);
    }

    private Inside() {
    }

    /** Puts a message at the net's end that nobody has sent; false if 32 wait. */
    static boolean forge(MajorityMap x, int kind, int from, int to, int ballot, int slot, int command) {
        try {
            return (boolean) PUT.invoke(NET.get(x), NEW_MESSAGE.newInstance(kind, from, to, ballot, slot, command));
        } catch (InstantiationException | IllegalAccessException | InvocationTargetException broken) {
            throw new IllegalStateException(broken);
        }
    }

    /** The command that replica r knows for a slot; -1 if none is known. */
    static int known(MajorityMap x, int r, int slot) {
        try {
            Object known = KNOWN.get(((Object[]) REPLICAS.get(x))[r]);
            return (boolean) HAS.invoke(known, slot) ? (int) AT.invoke(known, slot) : -1;
        } catch (IllegalAccessException | InvocationTargetException broken) {
            throw new IllegalStateException(broken);
        }
    }
}
