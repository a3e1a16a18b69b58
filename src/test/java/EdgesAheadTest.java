/** The edges of promises 14 to 21: what comes in QUARTERS going by. */
public final class EdgesAheadTest {
    private final Checks c = new Checks();

    public static void main(String[] args) {
        EdgesAheadTest t = new EdgesAheadTest();
        t.nothingElse();
        t.winnerFromOneToSixty();
        t.winnerNobody();
        t.whereFromNoughtToSixty();
        t.whereOfOthers();
        t.hasNow();
        t.hasBySixty();
        t.hasOfOthers();
        t.homeNow();
        t.homeBySixty();
        t.emptyNow();
        t.emptyBySixty();
        t.wonFromOneToSixty();
        t.wonOfOthers();
        t.streakFromOneToSixty();
        t.streakOneBehindAnother();
        t.streakOfOthers();
        t.movesFromOneToSixty();
        t.movesOfOthers();
        t.c.edgesOf(14, 21);
        t.c.end("EdgesAheadTest");
    }

    /** One that is won in the first quarter, brought in the second, won in the third, for ever. */
    private SoulRaffle toAndFro() {
        SoulRaffle x = c.open("person a mate coins 1; person o plain coins 0;" + Checks.goods(1, 1, "o"));
        c.is("buy(0)", x.buy(0), 1);
        return x;
    }

    /**
     * Five mates with nine tickets each, f with one: the seed by which f's ticket is drawn for the first time so many
     * DRAWS on, a first one below 1 aside where there is one.
     */
    private static int lateSeed(int draws, boolean hasFirst) {
        for (int seed = 0; seed <= 9999; seed++) {
            long g = hasFirst ? Checks.next(seed) : seed;
            int ahead = 0;
            do {
                g = Checks.next(g);
                ahead++;
            } while (ahead < draws && Checks.drawn(g, 46) != 45);
            if (ahead == draws && Checks.drawn(g, 46) == 45) {
                return seed;
            }
        }
        throw new IllegalArgumentException("there is no such seed");
    }

    private SoulRaffle mates(String rest, int seed) {
        SoulRaffle x = c.open(Checks.persons(5, "mate", 9) + "person f plain coins 1;" + rest + "seed " + seed + ";");
        for (int i = 0; i < 45; i++) {
            x.buy(i / 9);
        }
        x.buy(5);
        return x;
    }

    private void nothingElse() {
        c.edge(14, "(QUARTERS going by, nothing else being done.)");
        SoulRaffle x = toAndFro();
        for (int i = 0; i <= 61; i++) {
            x.winner(i);
            x.where(0, i);
            x.won(0, i);
            x.streak(0, i);
        }
        x.has(0, 0);
        x.home();
        x.empty();
        x.moves(0);
        c.row("count", x::count, 2, 1, 0, 1, 1, 0, 0, 0, 0, 1, 0);
        c.is("who HOLDS it", x.good(0, 2), -1);
        c.is("winner(1) still", x.winner(1), 0);
        c.is("undo", x.undo(), true);
        c.is("nobody buys by themselves", x.winner(60), -1);
    }

    private void winnerFromOneToSixty() {
        c.edge(14, "who wins in the so-many-th QUARTER (1 to 60) from now on.");
        SoulRaffle x = toAndFro();
        for (int i = 1; i <= 60; i++) {
            c.is("winner(" + i + ")", x.winner(i), i % 2 == 1 ? 0 : -1);
        }
        c.is("winner(61)", x.winner(61), -1);
        x.quarter();
        c.is("winner(59)", x.winner(59), -1);
        c.is("winner(60)", x.winner(60), 0);
        c.is("winner(62)", x.winner(62), -1);
        c.is("winner(0), where one is HELD", x.winner(0), -1);
        c.wrong("winner", x::winner, 61, -1);
        SoulRaffle y = mates(Checks.goods(1, 1, "f"), lateSeed(31, false));
        c.is("a mate in the 59th", y.winner(59) >= 0 && y.winner(59) < 5, true);
        y.quarter();
        c.is("f in the 60th, which was the 61st", y.winner(60), 5);
    }

    private void winnerNobody() {
        c.edge(14, "WINNER; NONE: others, nobody.");
        SoulRaffle x = c.held(1, Checks.persons(1, "plain", 1) + Checks.goods(2, 1, "a"), 0);
        c.row("winner", x::winner, -1, 0, -1, -1);
        SoulRaffle y = c.open(Checks.persons(1, "plain", 1) + Checks.goods(2, 1, "a"));
        c.row("winner without tickets", y::winner, -1, -1, -1, -1);
        SoulRaffle z = c.open(Checks.persons(1, "plain", 1));
        z.buy(0);
        c.row("winner without GOODS", z::winner, -1, -1, -1, -1);
    }

    private void whereFromNoughtToSixty() {
        c.edge(15, "by whom a GOOD is HELD behind so many (0 to 60).");
        SoulRaffle x = toAndFro();
        for (int i = 0; i <= 60; i++) {
            c.is("where(0, " + i + ")", x.where(0, i), i % 2 == 1 ? 0 : -1);
        }
        c.is("where(0, 61)", x.where(0, 61), -2);
        c.is("where(0, -1)", x.where(0, -1), -2);
        x.quarter();
        c.is("now", x.where(0, 0), 0);
        c.is("behind 59", x.where(0, 59), -1);
        c.is("behind 60", x.where(0, 60), 0);
        c.wrong("where(0, _)", n -> x.where(0, n), 61, -2);
    }

    private void whereOfOthers() {
        c.edge(15, "WHERE (NONE: the OFFICE); -2: others.");
        SoulRaffle x = c.held(1, Checks.persons(1, "plain", 1) + Checks.goods(8, 1, "a"), 0);
        c.is("the first", x.where(0, 0), 0);
        c.is("the last, now", x.where(7, 0), -1);
        c.is("the last, behind six", x.where(7, 6), -1);
        c.is("the last, behind seven", x.where(7, 7), 0);
        c.wrong("where(_, 0)", g -> x.where(g, 0), 8, -2);
        c.wrong("where(_, 60)", g -> x.where(g, 60), 8, -2);
        c.is("both wrong", x.where(8, 61), -2);
    }

    private void hasNow() {
        c.edge(16, "behind how many (0 to 60) a PERSON HOLDS a GOOD.");
        SoulRaffle x = toAndFro();
        c.is("behind one", x.has(0, 0), 1);
        x.quarter();
        c.is("now", x.has(0, 0), 0);
        x.quarter();
        c.is("behind one again", x.has(0, 0), 1);
        c.is("the other one never", x.has(1, 0), -1);
    }

    private void hasBySixty() {
        c.edge(16, "HAS; NONE: others, not by 60.");
        SoulRaffle x = mates(Checks.goods(1, 1, "f"), lateSeed(31, false));
        c.is("behind 61", x.has(5, 0), -1);
        x.quarter();
        c.is("behind 60", x.has(5, 0), 60);
        x.quarter();
        c.is("behind 59", x.has(5, 0), 59);
    }

    private void hasOfOthers() {
        c.edge(16, "HAS; NONE: others");
        SoulRaffle x = c.held(6, Checks.persons(6, "plain", 1) + Checks.goods(8, 1, "a"), 0, 5);
        c.is("the first of the first", x.has(0, 0), 0);
        c.is("the last", x.has(5, 1), 0);
        c.wrong("has(_, 0)", p -> x.has(p, 0), 6, -1);
        c.wrong("has(_, 7), which lies in the OFFICE", p -> x.has(p, 7), 6, -1);
        c.wrong("has(0, _)", g -> x.has(0, g), 8, -1);
        c.is("both wrong", x.has(-1, 8), -1);
    }

    private void homeNow() {
        c.edge(17, "behind how many (0 to 60) all GOODS are HELD by those whose they are by rights.");
        c.is("no GOODS", c.open(Checks.persons(1, "plain", 1)).home(), 0);
        c.is("nothing", new SoulRaffle().home(), 0);
        SoulRaffle x = c.open(Checks.persons(1, "plain", 1) + Checks.goods(8, 1, "a"));
        x.buy(0);
        for (int i = 8; i > 0; i--) {
            c.is("all eight", x.home(), i);
            x.quarter();
        }
        c.is("now", x.home(), 0);
        x.bring(7);
        c.is("all but the last", x.home(), 1);
        x.quarter();
        x.bring(0);
        c.is("all but the first", x.home(), 1);
        SoulRaffle y = c.held(2, Checks.persons(2, "plain", 1) + Checks.goods(2, 1, "a"), 0, 1);
        c.is("one with another", y.home(), -1);
    }

    private void homeBySixty() {
        c.edge(17, "HOME; NONE: not by 60.");
        SoulRaffle x = mates(Checks.goods(1, 1, "f"), lateSeed(31, false));
        c.is("behind 61", x.home(), -1);
        x.quarter();
        c.is("behind 60", x.home(), 60);
        x.quarter();
        c.is("behind 59", x.home(), 59);
        c.is("without tickets", c.open(Checks.persons(1, "plain", 1) + Checks.goods(1, 1, "a")).home(), -1);
    }

    private void emptyNow() {
        c.edge(18, "behind how many (0 to 60) no GOOD is in the OFFICE.");
        c.is("no GOODS", c.open(Checks.persons(1, "plain", 1)).empty(), 0);
        c.is("nothing", new SoulRaffle().empty(), 0);
        SoulRaffle x = c.open(Checks.persons(2, "plain", 1) + Checks.goods(8, 1, "a"));
        x.buy(1);
        for (int i = 8; i > 0; i--) {
            c.is("all eight", x.empty(), i);
            x.quarter();
        }
        c.is("now, by whomever", x.empty(), 0);
        x.bring(3);
        c.is("one is in it", x.empty(), 1);
        SoulRaffle y = toAndFro();
        c.is("behind one", y.empty(), 1);
    }

    private void emptyBySixty() {
        c.edge(18, "EMPTY; NONE: not by 60.");
        // two GOODS: what one mate brings, the other is won for it; behind f's the other one is won, too
        SoulRaffle x = mates(Checks.goods(2, 1, "f"), lateSeed(60, false));
        c.is("behind 61", x.empty(), -1);
        x.quarter();
        c.is("behind 60", x.empty(), 60);
        x.quarter();
        c.is("behind 59", x.empty(), 59);
        c.is("without tickets", c.open(Checks.persons(1, "plain", 1) + Checks.goods(1, 1, "a")).empty(), -1);
    }

    private void wonFromOneToSixty() {
        c.edge(19, "how often a PERSON wins in so many (1 to 60).");
        SoulRaffle x = toAndFro();
        for (int i = 1; i <= 60; i++) {
            c.is("won(0, " + i + ")", x.won(0, i), (i + 1) / 2);
            c.is("won(1, " + i + ")", x.won(1, i), 0);
        }
        c.is("won(0, 61)", x.won(0, 61), -1);
        c.is("won(0, 0)", x.won(0, 0), -1);
        x.quarter();
        c.is("what has been won does not count", x.won(0, 1), 0);
        c.is("won(0, 60)", x.won(0, 60), 30);
        c.wrong("won(0, _)", n -> x.won(0, n), 61, -1);
        SoulRaffle y = c.open(Checks.persons(1, "plain", 9) + Checks.goods(8, 1, "a"));
        y.buy(0);
        c.is("won(0, 60)", y.won(0, 60), 8);
    }

    private void wonOfOthers() {
        c.edge(19, "WON; NONE: others.");
        SoulRaffle x = c.open(Checks.persons(6, "plain", 9) + Checks.goods(1, 1, "a"));
        c.is("won without tickets", x.won(5, 60), 0);
        x.buy(5);
        c.is("won by the last", x.won(5, 1), 1);
        c.is("won by the first", x.won(0, 1), 0);
        c.wrong("won(_, 1)", p -> x.won(p, 1), 6, -1);
        c.is("both wrong", x.won(6, 61), -1);
    }

    private void streakFromOneToSixty() {
        c.edge(20, "STREAK: the most of these, of those in which anybody wins, one behind another");
        SoulRaffle x = toAndFro();
        for (int i = 1; i <= 60; i++) {
            c.is("streak(0, " + i + ")", x.streak(0, i), (i + 1) / 2);
            c.is("streak(1, " + i + ")", x.streak(1, i), 0);
        }
        c.is("streak(0, 61)", x.streak(0, 61), -1);
        c.is("streak(0, 0)", x.streak(0, 0), -1);
        c.wrong("streak(0, _)", n -> x.streak(0, n), 61, -1);
        x.quarter();
        c.is("what has been won does not count", x.streak(0, 1), 0);
        c.is("streak(0, 2)", x.streak(0, 2), 1);
    }

    private void streakOneBehindAnother() {
        c.edge(20, "one behind another, in which a PERSON does.");
        int[] won = {1, 1, 0, 1, 1, 1, 0, 0};
        SoulRaffle x = c.open(Checks.persons(2, "plain", 9) + Checks.goods(8, 1, "a") + "seed " + Checks.seed(2, won) + ";");
        x.buy(0);
        x.buy(1);
        c.row("winner", i -> x.winner(i + 1), won);
        c.row("streak of b", i -> x.streak(1, i), -1, 1, 2, 2, 2, 2, 3, 3, 3, 3);
        c.row("streak of a", i -> x.streak(0, i), -1, 0, 0, 1, 1, 1, 1, 1, 2, 2);
        // the same by mates: each second quarter nobody wins, and that breaks nothing
        SoulRaffle y = c.open(Checks.persons(2, "mate", 9) + "person o plain coins 0;" + Checks.goods(1, 1, "o")
            + "seed " + Checks.seed(2, won) + ";");
        y.buy(0);
        y.buy(1);
        for (int i = 1; i <= 8; i++) {
            int wins = i;
            c.is("streak of b", y.streak(1, 2 * i - 1), x.streak(1, wins));
            c.is("streak of b, a quarter on", y.streak(1, 2 * i), x.streak(1, wins));
            c.is("streak of a", y.streak(0, 2 * i - 1), x.streak(0, wins));
        }
    }

    private void streakOfOthers() {
        c.edge(20, "STREAK; NONE: others.");
        SoulRaffle x = c.open(Checks.persons(6, "plain", 9) + Checks.goods(1, 1, "a"));
        c.is("without tickets", x.streak(5, 60), 0);
        x.buy(5);
        c.is("by the last", x.streak(5, 60), 1);
        c.is("by the first", x.streak(0, 60), 0);
        c.wrong("streak(_, 1)", p -> x.streak(p, 1), 6, -1);
        c.is("both wrong", x.streak(6, 61), -1);
    }

    private void movesFromOneToSixty() {
        c.edge(21, "in how many (1 to 60) a GOOD is for the first time not where it is now.");
        SoulRaffle x = toAndFro();
        c.is("out of the OFFICE", x.moves(0), 1);
        x.quarter();
        c.is("into it", x.moves(0), 1);
        SoulRaffle y = c.open(Checks.persons(1, "plain", 1) + Checks.goods(8, 1, "a"));
        y.buy(0);
        c.row("moves", y::moves, 1, 2, 3, 4, 5, 6, 7, 8, -1);
        y.quarter();
        c.row("moves, the first being HELD for good", y::moves, -1, 1, 2, 3, 4, 5, 6, 7, -1);
        c.edge(21, "MOVES; NONE: others, not by 60.");
        // m FITS the proud one less than 5 once they win n, too, which the mates bring until then
        SoulRaffle z = c.open(Checks.persons(5, "mate", 9) + "person f proud coins 1;" + Checks.goods(2, 9, "f")
            + "fits price - others * 9; seed " + lateSeed(31, true) + ";");
        z.buy(5);
        c.is("m by f", z.quarter(), 5);
        for (int i = 0; i < 45; i++) {
            z.buy(i / 9);
        }
        c.is("behind 61", z.moves(0), -1);
        c.is("n moves at once", z.moves(1), 1);
        z.quarter();
        c.is("behind 60", z.moves(0), 60);
        z.quarter();
        c.is("behind 59", z.moves(0), 59);
    }

    private void movesOfOthers() {
        c.edge(21, "MOVES; NONE: others");
        SoulRaffle x = c.open(Checks.persons(1, "plain", 1) + Checks.goods(8, 1, "a"));
        c.is("without tickets", x.moves(0), -1);
        x.buy(0);
        c.wrong("moves", x::moves, 8, -1);
        c.wrong("moves of nothing", new SoulRaffle()::moves, 0, -1);
        // from one to another, the OFFICE aside: in the very next quarter
        SoulRaffle y = c.open("person a meek coins 1; person b plain coins 1;" + Checks.goods(1, 1, "b"));
        y.buy(0);
        y.quarter();
        c.is("from a to b", y.moves(0), 1);
        y.quarter();
        c.is("b keeps it", y.moves(0), -1);
    }
}
