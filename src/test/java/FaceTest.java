import java.lang.reflect.Field;
import java.lang.reflect.Method;
import java.lang.reflect.Modifier;
import java.util.Set;
import java.util.TreeSet;

/** The public face is the document's, name by name and type by type, and nothing else is to be seen from outside. */
public final class FaceTest {
    private static final String FACE = "int feed(long,long,long);int office();int year();int person(int,int);int good(int,int);"
        + "int fit(int,int);int buy(int);boolean swap(int,int);int bring(int);int quarter();boolean undo();int judged(int);"
        + "int winner(int);int where(int,int);int has(int,int);int home();int empty();int won(int,int);int streak(int,int);"
        + "int moves(int);int least();int rights();int joy(int);int envy(int);int offers(int);int want(int);int fans(int);"
        + "int dull();int gets(int);int rounds();int best(int);int owes(int);int spare();int odds(int,int);int enough(int,int);"
        + "int run(int);boolean see(int,int,boolean);int who();int ask();int rich();int sad();int lack(int);int debt();"
        + "int poor();int rests(int,int,int,int);int luck(int,int,int);boolean mark(int,boolean);int count(int)";

    public static void main(String[] args) throws ReflectiveOperationException {
        Checks c = new Checks();
        Class<?> face = SoulRaffle.class;
        c.is("public and final", face.getModifiers(), Modifier.PUBLIC | Modifier.FINAL);
        c.is("constructors", face.getDeclaredConstructors().length, 1);
        c.is("public", Modifier.isPublic(face.getConstructor().getModifiers()), true);
        methods(c, face);
        for (Field field : face.getDeclaredFields()) {
            boolean isNone = field.getName().equals("NONE");
            c.is(field + " is to be seen", Modifier.isPublic(field.getModifiers()), isNone);
            c.is(field + " is private", Modifier.isPrivate(field.getModifiers()), !isNone);
            c.is(field + " is final if static", Modifier.isFinal(field.getModifiers()) || !Modifier.isStatic(field.getModifiers()),
                true);
        }
        for (Class<?> inside : face.getDeclaredClasses()) {
            c.is(inside + " is static", Modifier.isStatic(inside.getModifiers()), true);
            c.is(inside + " is public", Modifier.isPublic(inside.getModifiers()), false);
        }
        Class<?>[] thrown = face.getMethod("rests", int.class, int.class, int.class, int.class).getExceptionTypes();
        c.is("rests throws one", thrown.length, 1);
        c.is("of that name", thrown.length == 1 && thrown[0] == java.util.NoSuchElementException.class, true);
        c.end("FaceTest");
    }

    private static void methods(Checks c, Class<?> face) {
        Set<String> due = new TreeSet<>(Set.of(FACE.split(";")));
        Set<String> names = new TreeSet<>();
        for (Method method : face.getDeclaredMethods()) {
            if (!Modifier.isPrivate(method.getModifiers())) {
                StringBuilder types = new StringBuilder();
                for (Class<?> type : method.getParameterTypes()) {
                    types.append(types.length() == 0 ? "" : ",").append(type.getName());
                }
                String text = method.getReturnType().getName() + " " + method.getName() + "(" + types + ")";
                c.is(text + " is in the document", due.remove(text), true);
                c.is(text + " is public, not static", method.getModifiers(), Modifier.PUBLIC);
                names.add(method.getName());
            }
        }
        c.is("missing: " + due, due.size(), 0);
        privateNames(c, face, names);
        for (Class<?> inside : face.getDeclaredClasses()) {
            privateNames(c, inside, names);
        }
    }

    private static void privateNames(Checks c, Class<?> where, Set<String> names) {
        for (Method method : where.getDeclaredMethods()) {
            if (Modifier.isPrivate(method.getModifiers())) {
                c.is(method + " has a name of the face", names.contains(method.getName()), false);
            }
        }
    }
}
