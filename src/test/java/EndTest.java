/** Promises 41 to 49: RICH, SAD, LACK, DEBT, POOR, RESTS, LUCK, MARKS, count. */
public final class EndTest {
    public static void main(String[] args) {
        Checks c = new Checks();
        richAndSad(c);
        lacksAndDebts(c);
        poor(c);
        rests(c);
        luck(c);
        luckOfSwaps(c);
        luckOfOneGood(c);
        luckOfNobody(c);
        marks(c);
        marksOfTheSeen(c);
        counts(c);
        wrongNumbers(c);
        c.end("EndTest");
    }

    private static void richAndSad(Checks c) {
        SoulRaffle x = c.open("person a plain coins 8; person b plain coins 9; person d plain coins 9; good g worth 1 of a;");
        c.is("rich", x.rich(), 1);
        c.is("sad, the first", x.sad(), 0);
        x.buy(1);
        c.is("rich", x.rich(), 2);
        x.buy(2);
        c.is("rich, the first", x.rich(), 0);
        SoulRaffle y = c.open("person a plain coins 8; person b plain coins 9; good g worth 1 of a;");
        y.buy(0);
        y.quarter();
        c.is("sad", y.sad(), 1);
        SoulRaffle z = c.open("person a plain coins 0;");
        c.is("rich by nothing", z.rich(), 0);
        c.is("sad", z.sad(), 0);
        c.is("nobody is rich", c.open("").rich(), -1);
        c.is("nobody is sad", c.open("").sad(), -1);
    }

    private static void lacksAndDebts(Checks c) {
        SoulRaffle x = c.open("person a plain coins 9; person b plain coins 9; good g worth 1 of a; good h worth 1 of b;"
            + "good k worth 1 of a; good l worth 1 of b;");
        c.row("lack", x::lack, 5, 10, -1);
        c.is("debt", x.debt(), 0);
        x.buy(0);
        x.quarter();
        c.row("lack", x::lack, 4, 10, -1);
        c.is("debt", x.debt(), 0);
        x.quarter();
        c.row("lack", x::lack, 4, 10, -1);
        c.is("debt", x.debt(), 1);
        x.quarter();
        x.quarter();
        c.row("lack", x::lack, 0, 10, -1);
        c.is("debt", x.debt(), 2);
        x.bring(0);
        c.row("lack", x::lack, 1, 10, -1);
        c.is("rights", x.rights(), 4);
    }

    private static void poor(Checks c) {
        SoulRaffle x = c.open("person a plain coins 0; person b plain coins 1; person d plain coins 0; good g worth 1 of a;");
        c.is("poor", x.poor(), 5);
        x.buy(1);
        c.is("not with a ticket", x.poor(), 5);
        x.quarter();
        c.is("a shilling more", x.poor(), 0);
        c.is("nobody", c.open("").poor(), 0);
        SoulRaffle y = c.open("person m meek coins 1; person a plain coins 0; good g worth 1 of a;");
        y.buy(0);
        y.quarter();
        y.quarter();
        c.is("none", y.poor(), 0);
    }

    private static void row(Checks c, SoulRaffle x, int both, int loses, int gains, int... due) {
        String call = "rests(" + both + ", " + loses + ", " + gains + ", ";
        c.is(call + "NONE)", x.rests(both, loses, gains, -1), due.length);
        for (int i = 0; i < due.length; i++) {
            c.is(call + i + ")", x.rests(both, loses, gains, i), due[i]);
        }
        c.noRest(x, both, loses, gains, due.length);
        c.noRest(x, both, loses, gains, Integer.MAX_VALUE);
    }

    private static void rests(Checks c) {
        SoulRaffle x = new SoulRaffle();
        row(c, x, 5, 2, 3, 0, 3);
        row(c, x, 3, 2, 3, 0, 3);
        row(c, x, 2, 2, 3, 0);
        row(c, x, 2, 0, 3, 0, 1, 2);
        row(c, x, 3, 0, 3, 0, 1, 2, 3);
        row(c, x, 4, 0, 3, 0, 3);
        row(c, x, 0, 0, 0, 0, 1, 2, 3);
        row(c, x, 9, 9, 9, 0, 3);
        row(c, x, 0, 9, 9, 0);
        c.noRest(x, 5, 2, 3, -2);
        c.noRest(x, 5, 2, 3, Integer.MIN_VALUE);
        for (int wrong : new int[] {-1, 10, Integer.MAX_VALUE, Integer.MIN_VALUE}) {
            c.noRest(x, wrong, 2, 3, -1);
            c.noRest(x, 5, wrong, 3, -1);
            c.noRest(x, 5, 2, wrong, -1);
            c.noRest(x, 5, 2, wrong, 0);
        }
    }

    private static void luck(Checks c) {
        // one PERSON: buys a ticket a quarter by the shilling of each
        SoulRaffle x = c.open("person a plain coins 1; good g worth 3 of a; good h worth 4 of a; good k worth 5 of a;");
        c.row("luck by one quarter", what -> x.luck(1, 1, what), 1, 1, 3, -1);
        c.row("luck by two", what -> x.luck(1, 2, what), 2, 3, 7, -1);
        c.row("luck by 99", what -> x.luck(9999, 99, what), 3, 7, 12, -1);
        c.row("count", x::count, 1, 3, 0, 7, 0, 1, 0, 0, 0, 0, 0);
        SoulRaffle y = c.open("person m mate coins 1; person o plain coins 0; good g worth 3 of o; seed 5;");
        y.buy(0);
        y.quarter();
        // m holds g, and brings it in this quarter
        c.row("luck by one", what -> y.luck(0, 1, what), 0, 0, 0, -1);
        // and wins it again in the next
        c.row("luck by two", what -> y.luck(0, 2, what), 1, 0, 3, -1);
        c.is("g is held as ahead", y.good(0, 2), 0);
        c.is("the DRAW is as ahead", y.winner(2), 0);
    }

    private static void luckOfSwaps(Checks c) {
        // DRAWS by seed 5 below 1 and 2: 0 1
        SoulRaffle x = c.open("person a plain coins 9; person b plain coins 9; good g worth 1 of b; good h worth 1 of a;"
            + "likes a h 5; likes b g 5; seed 5;");
        x.buy(0);
        x.quarter();
        x.buy(1);
        c.is("b wins", x.quarter(), 1);
        c.is("rights", x.rights(), 0);
        int swapped = 0;
        for (int seed = 0; seed < 40; seed++) {
            int bits = x.luck(seed, 1, 1);
            boolean isOther = secondDraw(seed) != thirdDraw(seed);
            c.is("luck(" + seed + ", 1, 1)", bits, isOther ? 3 : 0);
            c.is("luck(" + seed + ", 1, 2)", x.luck(seed, 1, 2), isOther ? 12 : 2);
            c.is("luck(" + seed + ", 1, 0)", x.luck(seed, 1, 0), 0);
            swapped += isOther ? 1 : 0;
        }
        c.is("some are swapped, some not", swapped > 5 && swapped < 35, true);
        c.is("rights as ahead", x.rights(), 0);
    }

    private static int secondDraw(long seed) {
        return (int) (next(next(seed)) / 65536 % 2);
    }

    private static int thirdDraw(long seed) {
        return (int) (next(next(next(seed))) / 65536 % 2);
    }

    private static long next(long g) {
        return (g * 1103515245 + 12345) % 2147483648L;
    }

    /** By one GOOD, too, two DRAWS go by that swap nothing. */
    private static void luckOfOneGood(Checks c) {
        SoulRaffle x = c.open("person a plain coins 9; person b plain coins 9; person d plain coins 9; good g worth 1 of b;");
        x.buy(0);
        x.buy(1);
        for (int seed = 0; seed < 40; seed++) {
            long g = next(seed);
            int buyer = (int) (g / 65536 % 3);
            g = next(next(next(g)));
            int[] ends = {buyer == 0 ? 2 : 1, buyer == 0 || buyer == 1 ? 3 : 2, 3};
            int ticket = (int) (g / 65536 % 3);
            boolean isB = ticket >= ends[0] && ticket < ends[1];
            c.is("luck(" + seed + ", 1, 1)", x.luck(seed, 1, 1), isB ? 1 : 0);
            c.is("luck(" + seed + ", 1, 0)", x.luck(seed, 1, 0), 1);
        }
    }

    private static void luckOfNobody(Checks c) {
        SoulRaffle x = c.open("");
        c.row("luck of nobody", what -> x.luck(1, 99, what), 0, 0, 0, -1);
        SoulRaffle y = c.open("person a plain coins 1;");
        c.row("luck without GOODS", what -> y.luck(1, 99, what), 0, 0, 0, -1);
        c.is("the quarter stays", y.count(2), 0);
        for (int seed : new int[] {-1, 10000, Integer.MAX_VALUE, Integer.MIN_VALUE}) {
            c.is("luck(" + seed + ", 1, 0)", y.luck(seed, 1, 0), -1);
        }
        c.wrong("luck(0, _, 0)", n -> y.luck(0, n, 0), 100, -1);
        c.is("luck(0, 0, 0)", y.luck(0, 0, 0), -1);
        c.wrong("luck(0, 1, _)", what -> y.luck(0, 1, what), 3, -1);
    }

    private static void marks(Checks c) {
        SoulRaffle x = c.open("person a plain coins 9; person b plain coins 9; good g worth 1 of b; good h worth 1 of a;"
            + "seed 3;");
        c.is("nothing is on it", x.mark(0, true), false);
        x.buy(0);
        x.buy(1);
        c.is("laid", x.mark(0, false), true);
        c.is("what can be undone stays", x.count(9), 2);
        c.is("b wins", x.quarter(), 1);
        x.buy(0);
        c.is("laid", x.mark(3, false), true);
        x.bring(0);
        c.is("back", x.mark(0, true), true);
        c.row("count", x::count, 2, 2, 0, 3, 2, 16, 0, 0, 0, 0, 0);
        c.is("nothing can be undone", x.undo(), false);
        c.is("the DRAW is the same", x.quarter(), 1);
        c.is("that can be", x.undo(), true);
        c.is("forth", x.mark(3, true), true);
        c.row("count", x::count, 2, 2, 1, 2, 3, 17, 1, 0, 0, 0, 0);
        c.is("back once more", x.mark(0, true), true);
        c.is("tickets", x.count(4), 2);
        c.is("laid anew", x.mark(3, false), true);
        x.quarter();
        c.is("back to the new", x.mark(3, true), true);
        c.is("the quarter", x.count(2), 0);
        c.is("others have nothing", x.mark(1, true), false);
        c.is("others have nothing", x.mark(2, true), false);
        for (int mark : new int[] {-1, 4, Integer.MAX_VALUE, Integer.MIN_VALUE}) {
            c.is("mark(" + mark + ", false)", x.mark(mark, false), false);
            c.is("mark(" + mark + ", true)", x.mark(mark, true), false);
        }
        SoulRaffle y = new SoulRaffle();
        c.is("of a new object", y.mark(1, false), true);
        y.quarter();
        c.is("back", y.mark(1, true), true);
        c.is("the quarter", y.count(2), 0);
    }

    private static void marksOfTheSeen(Checks c) {
        SoulRaffle x = c.open("person a plain coins 9; person b plain coins 9; good g worth 5 of b; likes b g 3;");
        x.see(0, 6, true);
        x.mark(1, false);
        x.see(0, 9, true);
        c.is("who", x.who(), 0);
        c.is("year()", Checks.year(x, "quarter;"), 0);
        x.buy(0);
        c.is("undo", x.undo(), true);
        c.is("UNDO leaves what is SEEN", x.count(8), 2);
        c.is("back", x.mark(1, true), true);
        c.is("count(8)", x.count(8), 1);
        c.is("who", x.who(), 2);
        c.is("the YEAR stays", x.count(7), 1);
        x.see(0, 9, false);
        x.mark(1, true);
        c.is("count(8)", x.count(8), 1);
        x.mark(2, false);
        x.see(0, 0, false);
        x.mark(1, true);
        x.see(0, 7, false);
        x.mark(2, true);
        c.is("who", x.who(), 2);
        // what differs from the first on comes back whole
        SoulRaffle y = c.open("person a plain coins 9; person b plain coins 9; good g worth 5 of b; good h worth 5 of b;"
            + "likes b g 3; likes a h 3;");
        y.mark(0, false);
        y.see(0, 6, true);
        y.mark(1, false);
        c.is("by g", y.who(), 2);
        y.mark(0, true);
        c.is("by nothing", y.who(), 3);
        y.see(1, 6, true);
        y.mark(2, false);
        c.is("by h", y.who(), 1);
        y.mark(1, true);
        c.is("by g again", y.who(), 2);
        y.mark(0, true);
        y.see(0, 6, false);
        y.mark(3, false);
        c.is("by less", y.who(), 1);
        y.mark(1, true);
        c.is("by more again", y.who(), 2);
        y.mark(0, true);
        y.see(0, 9, true);
        c.is("by too much", y.who(), 0);
        y.mark(1, true);
        c.is("by enough again", y.who(), 2);
        y.mark(2, true);
        c.is("by h again", y.who(), 1);
    }

    private static void counts(Checks c) {
        SoulRaffle x = c.open("person a plain coins 9; person b plain coins 50; good g worth 5 of b; good h worth 7 of b;"
            + "good k worth 9 of a;");
        c.row("count", x::count, 2, 3, 0, 7, 0, 59, 0, 0, 0, 0, 0, -1);
        x.buy(0);
        x.buy(0);
        x.quarter();
        x.quarter();
        x.see(1, 3, true);
        Checks.year(x, "quarter; buy a;");
        x.feed(0x414141L, 0, 0x20L);
        c.row("count", x::count, 2, 3, 2, 4, 2, 59, 12, 2, 1, 4, 4, -1);
    }

    private static void wrongNumbers(Checks c) {
        SoulRaffle x = c.open("person a plain coins 9; person b plain coins 50; good g worth 5 of b;");
        c.wrong("count", x::count, 11, -1);
        c.wrong("lack", x::lack, 2, -1);
    }
}
