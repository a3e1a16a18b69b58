import java.lang.reflect.InvocationTargetException;
import java.lang.reflect.Method;
import java.lang.reflect.Modifier;
import java.util.ArrayList;
import java.util.List;
import java.util.NoSuchElementException;
import java.util.Random;

/** No call throws by itself, for any arguments in any state; and what is asked changes nothing. */
public final class StrayTest {
    private static final int[] FAR = {0, 1, 2, 5, 6, 7, 8, 9, 40, 60, 61, 98, 99, 100, 9999, 10000, -1, -2, -3, 31, 32, 63, 64,
        255, 256, 1 << 16, 1 << 30, Integer.MAX_VALUE, Integer.MAX_VALUE - 1, Integer.MIN_VALUE, Integer.MIN_VALUE + 1};
    private static final String DEEDS = " feed office year buy swap bring quarter undo see mark ";

    public static void main(String[] args) throws ReflectiveOperationException {
        Checks c = new Checks();
        List<Method> face = new ArrayList<>();
        for (Method method : SoulRaffle.class.getDeclaredMethods()) {
            if (Modifier.isPublic(method.getModifiers())) {
                face.add(method);
            }
        }
        face.sort((a, b) -> a.getName().compareTo(b.getName()));
        c.is("methods of the face", face.size(), 48);
        for (int seed = 0; seed < 200; seed++) {
            play(c, face, seed);
        }
        c.end("StrayTest");
    }

    private static void play(Checks c, List<Method> face, int seed) throws ReflectiveOperationException {
        Random random = new Random(seed);
        SoulRaffle x = new SoulRaffle();
        if (seed % 4 != 0) {
            c.is("office()", Checks.office(x, office(random)), 0);
        }
        for (int call = 0; call < 450; call++) {
            Method method = face.get(random.nextInt(face.size()));
            boolean isDeed = DEEDS.contains(" " + method.getName() + " ");
            int before = isDeed ? 0 : state(x);
            Object[] arguments = arguments(random, method);
            try {
                method.invoke(x, arguments);
                c.is(method.getName(), true, true);
            } catch (InvocationTargetException e) {
                boolean due = method.getName().equals("rests") && e.getCause() instanceof NoSuchElementException;
                c.is("run " + seed + ": " + method.getName() + " throws " + e.getCause(), due, true);
            }
            if (!isDeed) {
                c.is("run " + seed + ": what is behind " + method.getName(), state(x), before);
            }
        }
    }

    private static String office(Random random) {
        StringBuilder text = new StringBuilder("seed " + random.nextInt(10000) + ";");
        String[] kinds = {"plain", "proud", "meek", "mate"};
        for (int i = 0; i < 6; i++) {
            text.append("person ").append((char) ('a' + i)).append(' ').append(kinds[random.nextInt(4)]).append(" coins 9;");
        }
        for (int i = 0; i < 8; i++) {
            text.append("good ").append((char) ('m' + i)).append(" worth ").append(random.nextInt(31)).append(" of ")
                .append((char) ('a' + random.nextInt(6))).append(";");
        }
        return text.append("fits price + mine * 9 - others * 3;").toString();
    }

    private static Object[] arguments(Random random, Method method) {
        Class<?>[] types = method.getParameterTypes();
        Object[] row = new Object[types.length];
        for (int i = 0; i < row.length; i++) {
            if (types[i] == long.class) {
                row[i] = random.nextLong();
            } else if (types[i] == boolean.class) {
                row[i] = random.nextBoolean();
            } else {
                int kind = random.nextInt(8);
                row[i] = kind == 0 ? random.nextInt() : kind < 3 ? FAR[random.nextInt(FAR.length)] : random.nextInt(8);
            }
        }
        return row;
    }

    private static int state(SoulRaffle x) {
        int hash = 0;
        for (int what = 0; what <= 10; what++) {
            hash = hash * 31 + x.count(what);
        }
        for (int i = 0; i < 8; i++) {
            hash = ((hash * 31 + x.good(i, 2)) * 31 + x.person(i, 1)) * 31 + x.person(i, 2);
        }
        return (hash * 31 + x.winner(1)) * 31 + x.who();
    }
}
