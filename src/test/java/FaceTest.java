import java.lang.reflect.Constructor;
import java.lang.reflect.Field;
import java.lang.reflect.Method;
import java.lang.reflect.Modifier;
import java.util.ArrayList;
import java.util.Arrays;
import java.util.HashSet;
import java.util.List;
import java.util.Set;
import java.util.TreeSet;

/** The public face is the document's and no more, and no call throws, whatever it is given. */
public final class FaceTest {
    private static final String[] METHODS = {
        "int fraction 3", "int drop 1", "int multiply 2", "int sum 2", "int lowest 1", "int of 2",
        "int digit 2", "int rest 2", "int place 2", "int block 3", "int nines 2", "int shift 2",
        "int multiple 2", "int order 2", "int cycles 3", "int full 4", "int list 2", "int thin 0",
        "int listed 1", "long tells 3", "int feed 2", "int wipe 0", "int spell 2", "int read 1",
        "int run 0", "int hold 2", "int lose 1", "int taken 2", "int was 2", "int row 2",
        "int put 3", "long get 2", "int judge 2", "int image 0", "int undo 0", "int count 1"};
    private static final String[] CONSTANTS = {
        "int BAD -1", "int NOT -2", "int FULL -3", "int STATE -5", "int WIDE -6",
        "long NO -9223372036854775808"};
    private static final int[] WILD = {
        Integer.MIN_VALUE, Integer.MIN_VALUE + 1, -14, -2, -1, 0, 1, 2, 3, 5, 6, 7, 8, 10, 16, 17,
        39, 40, 41, 80, 99, 400, 999, 1000, 9999, 10000, 1 << 16, Integer.MAX_VALUE};
    private static int wrong = 0;

    public static void main(String[] args) throws Exception {
        theFace();
        theClassesInside();
        wildCalls();
        System.out.println("FaceTest: " + wrong + " wrong");
        if (wrong != 0) {
            System.exit(1);
        }
    }

    private static void due(boolean held, String what) {
        if (!held) {
            wrong++;
            System.out.println("not as due: " + what);
        }
    }

    private static void theFace() throws Exception {
        Class<?> bench = TurningFractions.class;
        due(bench.getModifiers() == (Modifier.PUBLIC | Modifier.FINAL), "public final class");
        Constructor<?>[] constructors = bench.getDeclaredConstructors();
        due(constructors.length == 1 && constructors[0].getParameterCount() == 0
            && Modifier.isPublic(constructors[0].getModifiers()), "one public constructor");
        Set<String> methods = new TreeSet<>();
        for (Method method : bench.getDeclaredMethods()) {
            if (!Modifier.isPrivate(method.getModifiers())) {
                methods.add(method.getReturnType() + " " + method.getName() + " " + method.getParameterCount());
                due(method.getModifiers() == Modifier.PUBLIC, method + " is public alone");
                for (Class<?> type : method.getParameterTypes()) {
                    due(type == int.class, method + " takes ints");
                }
            }
        }
        due(methods.equals(new TreeSet<>(Arrays.asList(METHODS))), "methods " + methods);
        Set<String> constants = new TreeSet<>();
        for (Field field : bench.getDeclaredFields()) {
            if (!Modifier.isPrivate(field.getModifiers())) {
                constants.add(field.getType() + " " + field.getName() + " " + field.get(null));
                due(field.getModifiers() == (Modifier.PUBLIC | Modifier.STATIC | Modifier.FINAL), field + "");
            }
        }
        due(constants.equals(new TreeSet<>(Arrays.asList(CONSTANTS))), "constants " + constants);
    }

    private static void theClassesInside() {
        Set<String> names = new HashSet<>();
        for (String method : METHODS) {
            names.add(method.split(" ")[1]);
        }
        List<Class<?>> classes = new ArrayList<>(Arrays.asList(TurningFractions.class.getDeclaredClasses()));
        due(classes.size() <= 11, "some twelve classes at most");
        for (Class<?> inside : classes) {
            due(Modifier.isStatic(inside.getModifiers()), inside + " is static");
            due(!Modifier.isPublic(inside.getModifiers()) && !Modifier.isProtected(inside.getModifiers()), inside + " is not public");
        }
        classes.add(TurningFractions.class);
        for (Class<?> one : classes) {
            int fields = 0;
            for (Field field : one.getDeclaredFields()) {
                fields += Modifier.isStatic(field.getModifiers()) ? 0 : 1;
                due(!Modifier.isStatic(field.getModifiers()) || Modifier.isFinal(field.getModifiers()), field + " is no static state");
            }
            due(fields <= 20, one + " has some twenty fields at most");
            for (Method method : one.getDeclaredMethods()) {
                due(method.getParameterCount() <= 7, method + " takes seven parameters at most");
                boolean ofTheFace = one == TurningFractions.class && Modifier.isPublic(method.getModifiers());
                due(ofTheFace || !names.contains(method.getName()), method + " has a name of the face");
            }
        }
    }

    // ---- wild calls

    private static void wildCalls() throws Exception {
        for (int state = 0; state < 4; state++) {
            for (Method method : TurningFractions.class.getDeclaredMethods()) {
                if (Modifier.isPublic(method.getModifiers())) {
                    callWithAll(method, state, new Object[method.getParameterCount()], 0);
                }
            }
        }
    }

    private static TurningFractions inState(int state) {
        TurningFractions x = new TurningFractions();
        for (int f = 0; state > 0 && f < 6 + state; f++) {
            x.fraction(f * 1111, f == 3 ? 983 : 1 + f * 7, 2 + f);
        }
        for (int h = 0; state > 1 && h < 6; h++) {
            due(h % 2 == 0 ? x.hold(h, h) >= 0 : x.row(h, h * 8) >= 0, "held");
        }
        if (state > 2) {
            x.list(400, 10);
            x.image();
            for (int n = 0; n < 20; n++) {
                x.feed(0x6c6f7720, 4);
            }
        }
        return x;
    }

    private static void callWithAll(Method method, int state, Object[] numbers, int from) throws Exception {
        if (from == numbers.length) {
            try {
                method.invoke(inState(state), numbers);
            } catch (java.lang.reflect.InvocationTargetException thrown) {
                due(false, method + " " + Arrays.toString(numbers) + " threw " + thrown.getCause());
            }
            return;
        }
        boolean fewer = numbers.length > 3;
        for (int i = 0; i < WILD.length; i += fewer ? 3 : 1) {
            numbers[from] = WILD[i];
            callWithAll(method, state, numbers, from + 1);
        }
    }
}
