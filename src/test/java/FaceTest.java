import java.lang.reflect.Constructor;
import java.lang.reflect.Field;
import java.lang.reflect.Method;
import java.lang.reflect.Modifier;
import java.util.Arrays;
import java.util.TreeMap;
import java.util.TreeSet;

/** The public face: just the document's constants, constructor and methods, and nothing else that is not private. */
final class FaceTest {
    private static final String CONSTANTS = "NONE -1 MISMATCH -2 "
            + "ACT 0 TIMER 1 WAIT 2 CHILD 3 SIDE 4 SKIP 5 BACK 6 SET 7 ADD 8 UNDO 9 MARK 10 GUARD 11 TELL 12 FAIL 13 "
            + "AGAIN 14 END 15 "
            + "STARTED 0 DONE 1 LOST 2 FIRED 3 SIGNAL 4 CHILD_OVER 5 CANCEL 6 DECIDED 7 ACTIVITY 8 ACTIVITY_OFF 9 "
            + "TIMER_SET 10 TIMER_OFF 11 CHILD_MADE 12 MARKED 13 TOLD 14 UNDOING 15 OVER 16 "
            + "RUNNING 20 ENDED 21 FAILED 22 CANCELLED 23 STOPPED 24";
    private static final String INDEX = "IndexOutOfBoundsException";
    private static final String ARGUMENT = "IllegalArgumentException";
    private static final String STATE = "IllegalStateException";

    private static final TreeMap<String, String> METHODS = new TreeMap<>();

    public static void main(String[] args) throws Exception {
        method("int step(int, int, int, int)", INDEX, ARGUMENT, STATE);
        method("int forget(int)", INDEX);
        method("int release(int)", INDEX, STATE);
        method("int versions(int)", INDEX);
        method("int start(int, int, int)", INDEX, ARGUMENT, STATE);
        method("boolean signal(int, int, int)", INDEX, ARGUMENT);
        method("boolean cancel(int)", INDEX);
        method("int decide(int, int)", INDEX, STATE);
        method("int setRate(int, int)", INDEX, ARGUMENT);
        method("int take(int, int)", INDEX, STATE);
        method("int has(int)", INDEX);
        method("int beat(int)", INDEX, STATE);
        method("boolean end(int, int)", INDEX, ARGUMENT, STATE);
        method("int fail(int)", INDEX, STATE);
        method("boolean run(int, boolean)", INDEX);
        method("int ready(int)", INDEX);
        method("int taken(int, int)", INDEX);
        method("int tick(int)", ARGUMENT);
        method("int clock()");
        method("int workflows()");
        method("int parent(int)", INDEX);
        method("int runs(int)", INDEX);
        method("int state(int, int)", INDEX);
        method("int events(int, int)", INDEX);
        method("int eventKind(int, int, int)", INDEX);
        method("int eventNumber(int, int, int, boolean)", INDEX);
        method("int property(int, int)", INDEX, ARGUMENT);
        method("int found(int, int, int)", ARGUMENT);
        method("boolean isDue(int)", INDEX);
        method("int register(int)", INDEX);
        method("int place(int)", INDEX);
        method("int registerAnew(int, int)", INDEX);
        methods();
        fields();
        classes();
        Check.done("FaceTest");
    }

    private static void method(String signature, String... thrown) {
        METHODS.put(signature, Arrays.toString(thrown));
    }

    private static void methods() {
        TreeMap<String, String> got = new TreeMap<>();
        TreeSet<String> names = new TreeSet<>();
        for (Method m : Flowkeeper.class.getDeclaredMethods()) {
            if (!Modifier.isPrivate(m.getModifiers())) {
                names.add(m.getName());
                String types = Arrays.toString(m.getParameterTypes());
                got.put(m.getReturnType() + " " + m.getName() + "(" + types.substring(1, types.length() - 1) + ")",
                        Arrays.toString(Arrays.stream(m.getExceptionTypes()).map(Class::getSimpleName).toArray()));
                Check.holds(m + " is public alone", () -> Check.truth(m.getModifiers() == Modifier.PUBLIC));
            }
        }
        Check.same("methods", METHODS.toString(), got.toString());
        for (Method m : Flowkeeper.class.getDeclaredMethods()) {
            Check.holds(m + " does not bear a public one's name",
                    () -> Check.truth(!Modifier.isPrivate(m.getModifiers()) || !names.contains(m.getName())));
        }
        for (Class<?> inside : Flowkeeper.class.getDeclaredClasses()) {
            for (Method m : inside.getDeclaredMethods()) {
                Check.holds(m + " does not bear a public one's name", () -> Check.truth(!names.contains(m.getName())));
            }
        }
        Constructor<?>[] made = Flowkeeper.class.getDeclaredConstructors();
        Check.due("constructors", 1, () -> made.length);
        Check.same("constructor", "public Flowkeeper()", made[0].toString());
    }

    private static void fields() throws Exception {
        TreeMap<String, Integer> want = new TreeMap<>();
        String[] words = CONSTANTS.split(" ");
        for (int i = 0; i < words.length; i += 2) {
            want.put(words[i], Integer.valueOf(words[i + 1]));
        }
        TreeMap<String, Integer> got = new TreeMap<>();
        for (Field f : Flowkeeper.class.getDeclaredFields()) {
            if (!Modifier.isPrivate(f.getModifiers())) {
                Check.same(f.getName(), "public static final int " + "Flowkeeper." + f.getName(), f.toString());
                got.put(f.getName(), f.getInt(null));
            }
        }
        Check.same("constants", want.toString(), got.toString());
    }

    private static void classes() {
        Check.due("the class is public and final", Modifier.PUBLIC | Modifier.FINAL,
                () -> Flowkeeper.class.getModifiers());
        Class<?>[] inside = Flowkeeper.class.getDeclaredClasses();
        Check.holds("at most twelve classes", () -> Check.truth(inside.length + 1 <= 12));
        for (Class<?> c : inside) {
            Check.holds(c + " is private and static", () -> Check.truth(Modifier.isPrivate(c.getModifiers())
                    && Modifier.isStatic(c.getModifiers())));
        }
    }
}
