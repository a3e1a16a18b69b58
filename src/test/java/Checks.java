import java.nio.charset.StandardCharsets;
import java.util.NoSuchElementException;

/** What all tests share: a count of answers that are not as due, and texts put on the tape. */
final class Checks {
    private int done;
    private int wrong;

    void is(String call, long got, long due) {
        done++;
        if (got != due) {
            wrong++;
            System.out.println(call + " answered " + got + ", due is " + due);
        }
    }

    void is(String call, boolean got, boolean due) {
        is(call, got ? 1 : 0, due ? 1 : 0);
    }

    void noRest(SoulRaffle x, int both, int loses, int gains, int what) {
        String call = "rests(" + both + ", " + loses + ", " + gains + ", " + what + ") throws";
        try {
            x.rests(both, loses, gains, what);
            is(call, false, true);
        } catch (NoSuchElementException e) {
            is(call, true, true);
        }
    }

    void end(String name) {
        System.out.println(name + ": " + (done - wrong) + " of " + done + " answers are as due");
        if (wrong != 0 || done == 0) {
            System.exit(1);
        }
    }

    static void feed(SoulRaffle x, String text) {
        byte[] bytes = text.getBytes(StandardCharsets.ISO_8859_1);
        for (int i = 0; i < bytes.length; i += 24) {
            x.feed(eight(bytes, i), eight(bytes, i + 8), eight(bytes, i + 16));
        }
    }

    static long eight(byte[] bytes, int from) {
        long packed = 0;
        for (int i = from; i < from + 8; i++) {
            packed = packed << 8 | (i < bytes.length ? bytes[i] & 255 : 0);
        }
        return packed;
    }

    static int office(SoulRaffle x, String text) {
        feed(x, text);
        return x.office();
    }

    static int year(SoulRaffle x, String text) {
        feed(x, text);
        return x.year();
    }

    /** A new object with this office, which must have no fault. */
    SoulRaffle open(String text) {
        SoulRaffle x = new SoulRaffle();
        is("office() of " + text, office(x, text), 0);
        return x;
    }

    /** The fault of a text in which a ^ stands ahead of the token that is wrong. */
    void officeFault(int kind, String marked) {
        String text = marked.replace("^", "");
        is("office() of '" + text + "'", office(new SoulRaffle(), text), kind + 16 * marked.indexOf('^'));
    }

    /** The same of a year, of the object's office. */
    void yearFault(SoulRaffle x, int kind, String marked) {
        String text = marked.replace("^", "");
        is("year() of '" + text + "'", year(x, text), kind + 16 * marked.indexOf('^'));
    }

    /** One row of answers for the arguments 0, 1, 2, .. */
    interface Asked {
        int of(int argument);
    }

    void row(String call, Asked asked, int... due) {
        for (int i = 0; i < due.length; i++) {
            is(call + " of " + i, asked.of(i), due[i]);
        }
    }

    /** Wrong numbers of a PERSON or GOOD where there are so many: all have this answer. */
    void wrong(String call, Asked asked, int most, int due) {
        for (int argument : new int[] {-1, -2, most, most + 1, Integer.MAX_VALUE, Integer.MIN_VALUE}) {
            is(call + " of " + argument, asked.of(argument), due);
        }
    }
}
