import java.lang.reflect.InvocationTargetException;
import java.lang.reflect.Method;
import java.lang.reflect.Modifier;
import java.util.ArrayList;
import java.util.Arrays;
import java.util.List;
import java.util.Random;

/** Every promise: runs of calls by fixed seeds, each answer held against the Model's. */
public final class ModelTest {
    private static final String[] NAMES = {"ann", "bob", "cid", "dee", "eve", "fay", "gus", "hat", "ear", "faith", "shame",
        "sleep", "price", "mine", "like", "others", "arabic", "tram", "abcdefgh"};
    private static final String[] STRAY = {"person", "coins", "good", "worth", "of", "likes", "seed", "fits", "quarter", "buy",
        "swap", "bring", "plain", "proud", "meek", "mate", "not", "and", "or", "price", "mine", "like", "others", ";", "(",
        ")", "<", "=", "+", "-", "*", "0", "1", "5", "20", "21", "30", "31", "50", "51", "9999", "12345", "abcdefghi", ".",
        "A", "1a", "a1", "", "\n", "zz"};

    private final Random random;
    private final Checks checks;
    private final List<String> people = new ArrayList<>();
    private final List<String> things = new ArrayList<>();

    private ModelTest(long seed, Checks checks) {
        this.random = new Random(seed);
        this.checks = checks;
    }

    public static void main(String[] args) throws ReflectiveOperationException {
        Checks c = new Checks();
        int runs = args.length > 0 ? Integer.parseInt(args[0]) : 500;
        int from = args.length > 1 ? Integer.parseInt(args[1]) : 0;
        for (int seed = from; seed < from + runs; seed++) {
            new ModelTest(seed, c).play(seed);
        }
        c.end("ModelTest");
    }

    private void play(int seed) throws ReflectiveOperationException {
        SoulRaffle x = new SoulRaffle();
        Model m = new Model();
        List<Method> face = new ArrayList<>();
        for (Method method : SoulRaffle.class.getDeclaredMethods()) {
            if (Modifier.isPublic(method.getModifiers())) {
                face.add(method);
            }
        }
        face.sort((a, b) -> a.getName().compareTo(b.getName()));
        tellOffice(x, m, seed);
        for (int call = 0; call < 300; call++) {
            int kind = random.nextInt(40);
            if (kind == 0 && random.nextInt(4) == 0) {
                tell(x, m, seed, soup(), random.nextInt(3) != 0);
            } else if (kind == 0) {
                tellYear(x, m, seed);
            } else if (kind == 1 && random.nextInt(8) == 0) {
                tellOffice(x, m, seed);
            } else if (kind < 12) {
                deed(x, m, seed);
            } else {
                Method method = face.get(random.nextInt(face.size()));
                String name = method.getName();
                boolean costly = name.equals("best") || name.equals("owes") || name.equals("spare");
                boolean takes = name.equals("office") || name.equals("year") || name.equals("feed");
                if ((costly || takes) && random.nextInt(8) != 0) {
                    continue;
                }
                call(x, m, seed, method, arguments(method));
            }
        }
    }

    private void deed(SoulRaffle x, Model m, int seed) throws ReflectiveOperationException {
        String name = new String[] {"buy", "buy", "quarter", "quarter", "swap", "bring"}[random.nextInt(6)];
        for (Method method : SoulRaffle.class.getDeclaredMethods()) {
            if (method.getName().equals(name)) {
                Object[] arguments = new Object[method.getParameterCount()];
                for (int i = 0; i < arguments.length; i++) {
                    arguments[i] = random.nextInt(name.equals("buy") ? Math.max(1, people.size()) : Math.max(1, things.size()));
                }
                call(x, m, seed, method, arguments);
            }
        }
    }

    private Object[] arguments(Method method) {
        Class<?>[] types = method.getParameterTypes();
        Object[] row = new Object[types.length];
        for (int i = 0; i < row.length; i++) {
            if (types[i] == long.class) {
                row[i] = random.nextInt(3) == 0 ? random.nextLong() : Checks.eight("quarter\n".getBytes(), random.nextInt(4));
            } else if (types[i] == boolean.class) {
                row[i] = random.nextBoolean();
            } else {
                row[i] = argument(method.getName(), i);
            }
        }
        return row;
    }

    private int argument(String name, int index) {
        if (random.nextInt(12) == 0) {
            int[] far = {-1, -2, 6, 7, 8, 9, 10, 11, 60, 61, 99, 100, 9999, 10000, Integer.MAX_VALUE, Integer.MIN_VALUE, 0, 1};
            return far[random.nextInt(far.length)];
        }
        switch (name) {
            case "winner":
                return random.nextInt(62);
            case "where":
            case "won":
            case "streak":
                return index == 0 ? random.nextInt(7) : random.nextInt(62);
            case "enough":
                return index == 0 ? random.nextInt(7) : random.nextInt(101);
            case "odds":
                return random.nextInt(8);
            case "see":
                return index == 0 ? random.nextInt(8) : random.nextInt(50);
            case "best":
                return random.nextInt(8) - 1;
            case "rests":
                return index == 3 ? random.nextInt(6) - 1 : random.nextInt(10);
            case "luck":
                return index == 0 ? random.nextInt(10000) : index == 1 ? random.nextInt(101) : random.nextInt(3);
            case "mark":
                return random.nextInt(5);
            case "count":
                return random.nextInt(11);
            case "person":
            case "offers":
            case "judged":
                return random.nextInt(4);
            case "good":
                return index == 0 ? random.nextInt(8) : random.nextInt(3);
            default:
                return random.nextInt(Math.max(1, index == 0 ? 6 : 8));
        }
    }

    private void call(SoulRaffle x, Model m, int seed, Method method, Object... arguments) throws ReflectiveOperationException {
        Method twin = Model.class.getDeclaredMethod(method.getName(), method.getParameterTypes());
        String text = "run " + seed + ": " + method.getName() + Arrays.toString(arguments);
        checks.is(text, answer(method, x, arguments), answer(twin, m, arguments));
    }

    /** A number for any answer; an exception is told by a number that no answer is. */
    private static long answer(Method method, Object on, Object[] arguments) throws ReflectiveOperationException {
        try {
            Object answer = method.invoke(on, arguments);
            return answer instanceof Boolean b ? (b ? 1 : 0) : ((Integer) answer).longValue();
        } catch (InvocationTargetException e) {
            return 1_000_000_000_000L + e.getCause().getClass().getName().hashCode();
        }
    }

    private void tell(SoulRaffle x, Model m, int seed, String text, boolean isOffice) {
        byte[] bytes = text.getBytes();
        for (int i = 0; i < bytes.length; i += 24) {
            long a = Checks.eight(bytes, i);
            long b = Checks.eight(bytes, i + 8);
            long d = Checks.eight(bytes, i + 16);
            checks.is("run " + seed + ": feed", x.feed(a, b, d), m.feed(a, b, d));
        }
        String call = "run " + seed + ": " + (isOffice ? "office()" : "year()") + " of '" + text + "'";
        checks.is(call, isOffice ? x.office() : x.year(), isOffice ? m.office() : m.year());
    }

    // ---- texts ----

    private String pick(String... words) {
        return words[random.nextInt(words.length)];
    }

    private String pick(List<String> words) {
        return words.isEmpty() ? "zz" : words.get(random.nextInt(words.size()));
    }

    private void tellOffice(SoulRaffle x, Model m, int seed) {
        people.clear();
        things.clear();
        List<String> names = new ArrayList<>(Arrays.asList(NAMES));
        java.util.Collections.shuffle(names, random);
        StringBuilder text = new StringBuilder();
        int persons = random.nextInt(10) == 0 ? random.nextInt(8) : 2 + random.nextInt(4);
        int goods = persons == 0 ? 0 : random.nextInt(10) == 0 ? random.nextInt(10) : 2 + random.nextInt(6);
        for (int i = 0; i < persons; i++) {
            people.add(names.remove(0));
            text.append("person ").append(people.get(i)).append(' ').append(pick("plain", "proud", "meek", "mate"))
                .append(" coins ").append(pick("0", "1", "3", "9", "20", "49", "50")).append(" ; ");
        }
        for (int i = 0; i < goods; i++) {
            things.add(names.remove(0));
            text.append("good ").append(things.get(i)).append(" worth ").append(random.nextInt(random.nextBoolean() ? 31 : 8))
                .append(" of ").append(pick(people)).append(';');
        }
        List<String> pairs = new ArrayList<>();
        for (int i = random.nextInt(12); i > 0 && goods > 0; i--) {
            String pair = pick(people) + " " + pick(things);
            if (!pairs.contains(pair) || random.nextInt(20) == 0) {
                pairs.add(pair);
                text.append("likes ").append(pair).append(' ').append(1 + random.nextInt(20)).append(";\n");
            }
        }
        if (random.nextInt(3) != 0) {
            text.append("seed ").append(random.nextInt(10000)).append(" ;");
        }
        if (random.nextInt(2) != 0) {
            text.append("fits ").append(law(random.nextInt(5), 0)).append(" ;");
        }
        tell(x, m, seed, random.nextInt(4) == 0 ? spoil(text.toString()) : text.toString(), true);
    }

    private String law(int depth, int within) {
        if (depth == 0) {
            return pick("price", "price", "like", "like", "others", "mine", "" + random.nextInt(40), "9999");
        }
        switch (random.nextInt(9)) {
            case 0:
                return "not " + law(0, within + 1);
            case 1:
            case 2:
                return "( " + law(depth - 1, within + 1) + " )";
            case 3:
                return law(depth - 1, within) + pick("<", "=") + law(0, within);
            case 4:
                return law(depth - 1, within) + pick(" and ", " or ") + law(0, within);
            default:
                return law(depth - 1, within) + pick("+", "-", "*", " + ", " * ") + law(depth - 1, within);
        }
    }

    private void tellYear(SoulRaffle x, Model m, int seed) {
        StringBuilder text = new StringBuilder();
        int lines = random.nextInt(12) == 0 ? 38 + random.nextInt(5) : random.nextInt(30);
        for (int i = 0; i < lines; i++) {
            switch (random.nextInt(6)) {
                case 0:
                case 1:
                    text.append("quarter;");
                    break;
                case 2:
                case 3:
                    text.append("buy ").append(pick(people)).append(';');
                    break;
                case 4:
                    text.append("bring ").append(pick(things)).append(" ;");
                    break;
                default:
                    String first = pick(things);
                    String second = pick(things);
                    if (!first.equals(second) || random.nextInt(40) == 0) {
                        text.append("swap ").append(first).append('\n').append(second).append(" ;");
                    }
                    break;
            }
        }
        tell(x, m, seed, random.nextInt(3) == 0 ? spoil(text.toString()) : text.toString(), false);
    }

    /** Words in any order behind a line or two that can stand. */
    private String soup() {
        StringBuilder text = new StringBuilder(pick("", "fits ", "seed 1;", "person ann plain coins 1;", "quarter;",
            "person ann mate coins 1;good ear worth 2 of ann;likes ann ear ", "fits ((((", "fits not (not (1) "));
        for (int i = random.nextInt(12); i > 0; i--) {
            text.append(pick(random.nextInt(4) == 0 ? NAMES : STRAY)).append(pick("", " ", " "));
        }
        return text.toString();
    }

    /** Puts a stray word in, takes a piece out, or puts another in its place. */
    private String spoil(String text) {
        List<String> words = new ArrayList<>(Arrays.asList(text.split("(?<=[ ;\\n])|(?=;)")));
        for (int i = 1 + random.nextInt(2); i > 0 && !words.isEmpty(); i--) {
            int at = random.nextInt(words.size());
            switch (random.nextInt(4)) {
                case 0:
                    words.remove(at);
                    break;
                case 1:
                    words.add(at, " " + pick(STRAY) + " ");
                    break;
                case 2:
                    words.set(at, " " + pick(random.nextBoolean() ? STRAY : NAMES) + " ");
                    break;
                default:
                    words = new ArrayList<>(words.subList(0, at));
                    break;
            }
        }
        return String.join("", words);
    }
}
