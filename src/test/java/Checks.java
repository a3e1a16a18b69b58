import java.nio.charset.StandardCharsets;
import java.nio.file.Files;
import java.nio.file.Path;
import java.util.Arrays;
import java.util.NoSuchElementException;
import java.util.TreeSet;

/** What all tests share: a count of answers that are not as due, and texts put on the tape. */
final class Checks {
    private static final Path DOCUMENT = Path.of("..", "shared", "DOC.md");

    /** So many wrong answers are told, the others counted alone. */
    private static final int TOLD_MOST = 30;

    private int done;
    private int wrong;
    private String about = "";
    private int doneAhead;
    private final TreeSet<Integer> promises = new TreeSet<>();
    private String document;

    void is(String call, long got, long due) {
        done++;
        if (got != due) {
            tellWrong(call + " answered " + got + ", due is " + due);
        }
    }

    private void tellWrong(String what) {
        wrong++;
        if (wrong <= TOLD_MOST) {
            System.out.println(about + what);
        }
    }

    void is(String call, boolean got, boolean due) {
        is(call, got ? 1 : 0, due ? 1 : 0);
    }

    void noRest(SoulRaffle x, int both, int loses, int gains, int what) {
        String call = "rests(" + both + ", " + loses + ", " + gains + ", " + what + ") throws";
        try {
            x.rests(both, loses, gains, what);
            is(call, false, true);
        } catch (NoSuchElementException e) {
            is(call, true, true);
        }
    }

    void end(String name) {
        closeEdge();
        System.out.println(name + ": " + (done - wrong) + " of " + done + " answers are as due");
        if (wrong != 0 || done == 0) {
            System.exit(1);
        }
    }

    // ---- edges: each by the document's own words, and by checks of its own ----

    /** Tells of which promise, and of which words of the document, the checks behind it are. */
    void edge(int promise, String words) {
        closeEdge();
        about = "promise " + promise + ", '" + words + "': ";
        doneAhead = done;
        promises.add(promise);
        if (!document().isEmpty() && !document().contains(plain(words))) {
            tellWrong("these words are not the document's");
        }
    }

    private void closeEdge() {
        if (!about.isEmpty() && done == doneAhead) {
            tellWrong("nothing is checked");
        }
        about = "";
        doneAhead = done;
    }

    /** That there was an edge of each promise from the one to the other. */
    void edgesOf(int from, int to) {
        closeEdge();
        for (int promise = from; promise <= to; promise++) {
            is("an edge of promise " + promise, promises.contains(promise), true);
        }
    }

    /** Empty where there is none to be read, so that the checks go without. */
    private String document() {
        if (document == null) {
            try {
                document = Files.isReadable(DOCUMENT) ? plain(Files.readString(DOCUMENT)) : "";
            } catch (java.io.IOException e) {
                document = "";
            }
        }
        return document;
    }

    private static String plain(String text) {
        return text.replaceAll("\\s+", " ");
    }

    // ---- texts ----

    static void feed(SoulRaffle x, String text) {
        byte[] bytes = text.getBytes(StandardCharsets.ISO_8859_1);
        for (int i = 0; i < bytes.length; i += 24) {
            x.feed(eight(bytes, i), eight(bytes, i + 8), eight(bytes, i + 16));
        }
    }

    static long eight(byte[] bytes, int from) {
        long packed = 0;
        for (int i = from; i < from + 8; i++) {
            packed = packed << 8 | (i < bytes.length ? bytes[i] & 255 : 0);
        }
        return packed;
    }

    static int office(SoulRaffle x, String text) {
        feed(x, text);
        return x.office();
    }

    static int year(SoulRaffle x, String text) {
        feed(x, text);
        return x.year();
    }

    /** A new object with this office, which must have no fault. */
    SoulRaffle open(String text) {
        SoulRaffle x = new SoulRaffle();
        is("office() of " + text, office(x, text), 0);
        return x;
    }

    /** The fault of a text in which a ^ stands ahead of the token that is wrong. */
    void officeFault(int kind, String marked) {
        String text = marked.replace("^", "");
        is("office() of '" + text + "'", office(new SoulRaffle(), text), kind + 16 * marked.indexOf('^'));
    }

    /** The same of a year, of the object's office. */
    void yearFault(SoulRaffle x, int kind, String marked) {
        String text = marked.replace("^", "");
        is("year() of '" + text + "'", year(x, text), kind + 16 * marked.indexOf('^'));
    }

    /** So many PERSONS of a kind: a, b, .. f, g. */
    static String persons(int many, String kind, int coins) {
        StringBuilder text = new StringBuilder();
        for (int i = 0; i < many; i++) {
            text.append("person ").append((char) ('a' + i)).append(' ').append(kind).append(" coins ").append(coins).append(';');
        }
        return text.toString();
    }

    /** So many GOODS of one: m, n, .. t, u. */
    static String goods(int many, int worth, String owner) {
        StringBuilder text = new StringBuilder();
        for (int i = 0; i < many; i++) {
            text.append("good ").append((char) ('m' + i)).append(" worth ").append(worth).append(" of ").append(owner).append(';');
        }
        return text.toString();
    }

    // ---- draws ----

    /** The g behind this one. */
    static long next(long g) {
        return (g * 1103515245L + 12345L) % 2147483648L;
    }

    /** What a DRAW below m is that comes to this g. */
    static int drawn(long g, int below) {
        return (int) (g / 65536 % below);
    }

    /** The first seed by which DRAWS below so many are these, one behind another. */
    static int seed(int below, int... due) {
        int[] belows = new int[due.length];
        Arrays.fill(belows, below);
        return seed(belows, due);
    }

    /** The same, each DRAW below a number of its own. */
    static int seed(int[] below, int[] due) {
        for (int seed = 0; seed <= 9999; seed++) {
            long g = next(seed);
            int right = 0;
            while (right < due.length && drawn(g, below[right]) == due[right]) {
                right++;
                g = next(g);
            }
            if (right == due.length) {
                return seed;
            }
        }
        throw new IllegalArgumentException("there is no such seed");
    }

    /**
     * An office, told without a seed, in which the first GOODS have been won by these, a quarter each; each PERSON buys
     * a ticket, who wins ahead of that, the others at last. (Let them be plain ones, lest they give it away.)
     */
    SoulRaffle held(int persons, String text, int... holders) {
        int[] below = new int[holders.length];
        int[] due = new int[holders.length];
        int bought = 0;
        for (int i = 0; i < holders.length; i++) {
            bought |= 1 << holders[i];
            below[i] = Integer.bitCount(bought);
            due[i] = Integer.bitCount(bought & (1 << holders[i]) - 1);
        }
        SoulRaffle x = open(text + "seed " + seed(below, due) + ";");
        bought = 0;
        for (int holder : holders) {
            if ((bought >> holder & 1) == 0) {
                is("buy(" + holder + ")", x.buy(holder), 1);
                bought |= 1 << holder;
            }
            is("quarter()", x.quarter(), holder);
        }
        for (int person = 0; person < persons; person++) {
            if ((bought >> person & 1) == 0) {
                is("buy(" + person + ")", x.buy(person), 1);
            }
        }
        return x;
    }

    // ---- rows of answers ----

    /** One row of answers for the arguments 0, 1, 2, .. */
    interface Asked {
        int of(int argument);
    }

    void row(String call, Asked asked, int... due) {
        for (int i = 0; i < due.length; i++) {
            is(call + " of " + i, asked.of(i), due[i]);
        }
    }

    /** Wrong numbers of a PERSON or GOOD where there are so many: all have this answer. */
    void wrong(String call, Asked asked, int most, int due) {
        for (int argument : new int[] {-1, -2, most, most + 1, Integer.MAX_VALUE, Integer.MIN_VALUE}) {
            is(call + " of " + argument, asked.of(argument), due);
        }
    }
}
