import java.lang.reflect.Field;
import java.lang.reflect.Method;
import java.lang.reflect.Modifier;
import java.util.Arrays;
import java.util.Random;
import java.util.Set;
import java.util.TreeSet;

/** The public face is the document's and no more; no call throws, whatever its numbers; refused calls change nothing. */
public final class FaceTest {
    private static final String[] HEADS = {
        "int lay(int, int, int)", "int card(int, int)", "int can(int, int)", "int say(int)", "int wipe()", "int fault()",
        "int judge(int)", "int done()", "int behind(int, int)", "int left(int)", "int then(int)", "int turned(int, int)",
        "int patch(int)", "int box(int)", "int cover(int, int)", "int pictures()", "int made(int)",
        "int seen(int, boolean)", "int forget()", "int prints(int)", "int ask(int)", "int steps(int, int)",
        "long fall(int, int, int, int)", "int year(int, int, int)", "int image(int)", "int restore(int)",
        "int told(int)"};
    private static final int[] EDGES = {Integer.MIN_VALUE, Integer.MIN_VALUE + 1, -65536, -2, -1, 0, 1, 2, 3, 4, 5, 6, 7,
        8, 10, 15, 16, 17, 31, 32, 33, 40, 46, 60, 65, 99, 100, 126, 127, 999, 1000, 9999, 10000, 65535, 65536, 99999,
        100000, Integer.MAX_VALUE - 1, Integer.MAX_VALUE};

    public static void main(String[] args) throws Exception {
        members();
        constants();
        inside();
        anyNumbers();
        Check.end();
    }

    private static void members() {
        Class<?> face = StencilWall.class;
        Check.that("public and final", Modifier.isPublic(face.getModifiers()) && Modifier.isFinal(face.getModifiers()));
        Check.due("one constructor", face.getDeclaredConstructors().length, 1);
        Check.due("a public one", face.getConstructors().length, 1);
        Check.due("without arguments", face.getConstructors()[0].getParameterCount(), 0);
        Set<String> heads = new TreeSet<>();
        for (Method method : face.getDeclaredMethods()) {
            if (!Modifier.isPrivate(method.getModifiers())) {
                Check.due("flags of " + method.getName(), method.getModifiers(), Modifier.PUBLIC);
                heads.add(head(method));
            }
        }
        Check.that("heads: " + heads, heads.equals(new TreeSet<>(Arrays.asList(HEADS))));
    }

    private static String head(Method method) {
        String parameters = Arrays.toString(method.getParameterTypes());
        return method.getReturnType() + " " + method.getName() + "(" + parameters.substring(1, parameters.length() - 1) + ")";
    }

    private static void constants() throws Exception {
        Set<String> names = new TreeSet<>(Arrays.asList("NONE", "UNKNOWN", "OUTSIDE", "STATE", "FULL", "NO", "LOST"));
        for (Field field : StencilWall.class.getDeclaredFields()) {
            if (!Modifier.isPrivate(field.getModifiers())) {
                Check.due("flags of " + field.getName(), field.getModifiers(),
                    Modifier.PUBLIC | Modifier.STATIC | Modifier.FINAL);
                Check.that("a constant of the document: " + field.getName(), names.remove(field.getName()));
                Check.that("type of " + field.getName(),
                    field.getType() == (field.getName().equals("LOST") ? long.class : int.class));
            }
        }
        Check.that("constants that lack: " + names, names.isEmpty());
        Check.due("NONE", StencilWall.NONE, -6);
        Check.due("UNKNOWN", StencilWall.UNKNOWN, -1);
        Check.due("OUTSIDE", StencilWall.OUTSIDE, -2);
        Check.due("STATE", StencilWall.STATE, -3);
        Check.due("FULL", StencilWall.FULL, -4);
        Check.due("NO", StencilWall.NO, -5);
        Check.due("LOST", StencilWall.LOST, -1000000000000000000L);
    }

    /** LANGUAGE.md, rules 1, 5 and 11. */
    private static void inside() {
        Set<String> names = new TreeSet<>();
        for (String head : HEADS) {
            names.add(head.substring(head.indexOf(' ') + 1, head.indexOf('(')));
        }
        Class<?>[] inside = StencilWall.class.getDeclaredClasses();
        Check.that("at most twelve classes", inside.length < 12);
        for (Class<?> each : inside) {
            Check.that(each + " is static", Modifier.isStatic(each.getModifiers()));
            Check.that(each + " is hidden", !Modifier.isPublic(each.getModifiers()) && !Modifier.isProtected(each.getModifiers()));
            looked(each);
            for (Method method : each.getDeclaredMethods()) {
                Check.that(each + " bears no name of the face: " + method.getName(), !names.contains(method.getName()));
            }
        }
        looked(StencilWall.class);
        for (Method method : StencilWall.class.getDeclaredMethods()) {
            Check.that("no private method bears a name of the face: " + method.getName(),
                Modifier.isPublic(method.getModifiers()) == names.contains(method.getName()));
        }
    }

    private static void looked(Class<?> each) {
        int fields = 0;
        for (Field field : each.getDeclaredFields()) {
            fields += Modifier.isStatic(field.getModifiers()) ? 0 : 1;
            Check.that(field + ": static fields are final",
                !Modifier.isStatic(field.getModifiers()) || Modifier.isFinal(field.getModifiers()));
        }
        Check.that(each + ": at most twenty fields", fields <= 20);
        for (Method method : each.getDeclaredMethods()) {
            Check.that(method + ": at most seven parameters", method.getParameterCount() <= 7);
        }
    }

    /** The twin gets only the calls that are not refused: it stays like the wall, if refused calls change nothing. */
    private static void anyNumbers() {
        Random random = new Random(1);
        Method[] calls = StencilWall.class.getMethods();
        Arrays.sort(calls, (a, b) -> a.getName().compareTo(b.getName()));
        for (int run = 0; run < 3000; run++) {
            StencilWall wall = new StencilWall();
            StencilWall twin = new StencilWall();
            for (int i = 0; i < 300; i++) {
                Method method = calls[random.nextInt(calls.length)];
                if (method.getDeclaringClass() == StencilWall.class) {
                    call(wall, twin, method, random);
                }
            }
            Check.unchanged("all refused calls of run " + run, wall, Check.fingerprint(twin));
        }
    }

    private static void call(StencilWall wall, StencilWall twin, Method method, Random random) {
        Object[] arguments = new Object[method.getParameterCount()];
        for (int i = 0; i < arguments.length; i++) {
            boolean flag = method.getParameterTypes()[i] == boolean.class;
            arguments[i] = flag ? (Object) random.nextBoolean() : (Object) number(random);
        }
        String name = method.getName() + Arrays.toString(arguments);
        try {
            long answer = ((Number) method.invoke(wall, arguments)).longValue();
            if (answer >= 0) {
                Check.due(name, answer, ((Number) method.invoke(twin, arguments)).longValue());
            }
        } catch (ReflectiveOperationException e) {
            Check.that(name + " throws nothing, but " + e.getCause(), false);
        }
    }

    private static int number(Random random) {
        switch (random.nextInt(4)) {
            case 0:
                return random.nextInt();
            case 1:
                return EDGES[random.nextInt(EDGES.length)];
            case 2:
                return random.nextInt(8);
            default:
                return random.nextInt(130);
        }
    }
}
