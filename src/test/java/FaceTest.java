import java.lang.reflect.Constructor;
import java.lang.reflect.Field;
import java.lang.reflect.InvocationTargetException;
import java.lang.reflect.Member;
import java.lang.reflect.Method;
import java.lang.reflect.Modifier;
import java.util.ArrayList;
import java.util.Arrays;
import java.util.List;
import java.util.NoSuchElementException;
import java.util.Random;
import java.util.TreeSet;

/** The face is the document's and no more; and whatever is called with whatever, only what is promised is thrown. */
public final class FaceTest {
    private static final String[] FACE = {"int sign(int)", "boolean end(int)", "int house()", "int price()",
        "int door(int, int)", "int of(int, int)", "int sheet(int, int, int, int)", "int keeps(int)", "int hours(int)",
        "int pass(int, int)", "int way(int, int)", "int may(int)", "int goes(int, int)", "int priced(int, int)",
        "int fro(int, int)", "int crowd()", "int many(int, int)", "int bars(int, int)", "int counts(int, int, int)",
        "int more(int)", "int build(int, int, int, int)", "int never(int, int, int)", "int home(int)",
        "int fire(int)", "int late(int)", "int day(int)", "int would(int)", "int plan()", "int order(int)",
        "int leave(int)", "int tour(int, int)", "int send(int)", "int two(int, int, int, int)",
        "int keep(int, int, int, int, int, int)", "int sure(int, int)", "int says(int, int, int)", "int trust(int)",
        "int safe(int, int, int, int)", "boolean put(int)", "boolean again(int)", "int count(int)", "long row(int)"};
    private static final List<String> THROWING = List.of("door", "of", "row");
    private static final int[] ODD = {Integer.MIN_VALUE, Integer.MIN_VALUE + 1, -1000, -3, -2, -1, 12, 13, 20, 21, 31,
        32, 33, 60, 61, 63, 64, 99, 100, 4095, 4096, 1 << 30, Integer.MAX_VALUE - 1, Integer.MAX_VALUE};
    private static int wrong = 0;

    public static void main(String[] args) throws ReflectiveOperationException {
        checkMethods();
        checkOthers();
        for (long seed = 1; seed <= 400; seed++) {
            callAnything(new Random(seed), seed);
        }
        System.out.println(wrong == 0 ? "the face is as it should be" : wrong + " faults of the face");
        if (wrong != 0) {
            System.exit(1);
        }
    }

    private static void fault(String what) {
        wrong++;
        System.out.println(what);
    }

    private static void checkMethods() {
        TreeSet<String> want = new TreeSet<>(Arrays.asList(FACE));
        TreeSet<String> got = new TreeSet<>();
        TreeSet<String> publicNames = new TreeSet<>();
        for (Method m : ClosesAfterSeventh.class.getDeclaredMethods()) {
            if (!Modifier.isPrivate(m.getModifiers())) {
                List<String> types = new ArrayList<>();
                for (Class<?> type : m.getParameterTypes()) {
                    types.add(type.getName());
                }
                got.add(m.getReturnType() + " " + m.getName() + "(" + String.join(", ", types) + ")");
                publicNames.add(m.getName());
                if (!Modifier.isPublic(m.getModifiers()) || Modifier.isStatic(m.getModifiers())) {
                    fault("not a public method of an object: " + m);
                }
                List<Class<?>> thrown = Arrays.asList(m.getExceptionTypes());
                if (!thrown.equals(THROWING.contains(m.getName()) ? List.of(NoSuchElementException.class) : List.of())) {
                    fault("other exceptions: " + m);
                }
            }
        }
        if (!got.equals(want)) {
            fault("the face is " + got);
        }
        checkPrivateNames(ClosesAfterSeventh.class, publicNames);
        for (Class<?> c : ClosesAfterSeventh.class.getDeclaredClasses()) {
            checkPrivateNames(c, publicNames);
        }
    }

    private static void checkPrivateNames(Class<?> c, TreeSet<String> publicNames) {
        for (Method m : c.getDeclaredMethods()) {
            if (!Modifier.isPublic(m.getModifiers()) && publicNames.contains(m.getName())) {
                fault("bears a public name: " + m);
            }
        }
    }

    private static void checkOthers() {
        if (!Modifier.isFinal(ClosesAfterSeventh.class.getModifiers())) {
            fault("the class is not final");
        }
        for (Field f : ClosesAfterSeventh.class.getDeclaredFields()) {
            boolean isNone = f.getName().equals("NONE") && f.getModifiers()
                    == (Modifier.PUBLIC | Modifier.STATIC | Modifier.FINAL);
            checkPrivate(f, isNone);
        }
        Constructor<?>[] all = ClosesAfterSeventh.class.getDeclaredConstructors();
        if (all.length != 1 || !Modifier.isPublic(all[0].getModifiers()) || all[0].getParameterCount() != 0) {
            fault("other constructors");
        }
    }

    private static void checkPrivate(Member m, boolean known) {
        if (!known && !Modifier.isPrivate(m.getModifiers())) {
            fault("neither private nor of the face: " + m);
        }
        if (Modifier.isStatic(m.getModifiers()) && !Modifier.isFinal(m.getModifiers())) {
            fault("static and not final: " + m);
        }
    }

    private static void callAnything(Random random, long seed) throws ReflectiveOperationException {
        ClosesAfterSeventh x = new ClosesAfterSeventh();
        Method[] methods = ClosesAfterSeventh.class.getMethods();
        Arrays.sort(methods, (m, n) -> m.getName().compareTo(n.getName()));
        StringBuilder told = new StringBuilder();
        for (int i = 0; i < 500; i++) {
            if (random.nextInt(40) == 0) {
                write(x, random);
            }
            Method m = methods[random.nextInt(methods.length)];
            if (m.getDeclaringClass() != ClosesAfterSeventh.class) {
                continue;
            }
            Object[] arguments = new Object[m.getParameterCount()];
            for (int j = 0; j < arguments.length; j++) {
                arguments[j] = anyInt(random);
            }
            told.append(m.getName()).append(Arrays.toString(arguments)).append(' ');
            try {
                m.invoke(x, arguments);
            } catch (InvocationTargetException e) {
                if (e.getCause().getClass() != NoSuchElementException.class || !THROWING.contains(m.getName())) {
                    fault("seed " + seed + ": " + e.getCause() + " behind " + told);
                    return;
                }
            }
        }
    }

    private static int anyInt(Random random) {
        int kind = random.nextInt(10);
        return kind == 0 ? random.nextInt() : kind == 1 ? ODD[random.nextInt(ODD.length)] : random.nextInt(8);
    }

    private static void write(ClosesAfterSeventh x, Random random) {
        StringBuilder s = new StringBuilder();
        boolean house = random.nextInt(4) != 0;
        if (house) {
            for (int i = random.nextInt(10); i >= 0; i--) {
                int a = random.nextInt(12);
                int b = (a + 1 + random.nextInt(11)) % 12;
                String line = random.nextBoolean() ? "d" + a + "-" + b + "," + random.nextInt(4)
                        : "p" + a + "," + random.nextInt(9) + ">" + b + (random.nextBoolean() ? "<" : "");
                s.append(line).append(i == 0 || s.length() > 60 ? "" : ";");
                if (s.length() > 60) {
                    break;
                }
            }
        } else {
            for (int i = random.nextInt(41); i >= 0; i--) {
                s.append("lk-(9)+*<h".charAt(random.nextInt(10)));
            }
        }
        x.end(0);
        for (int i = 0; i < s.length(); i += 4) {
            int v = 0;
            for (int j = i; j < i + 4; j++) {
                v = v << 8 | (j < s.length() ? s.charAt(j) : 0);
            }
            x.sign(v);
        }
        x.end(s.length());
        if (house) {
            x.house();
        } else {
            x.price();
        }
    }
}
