/** Promises 14 to 21: QUARTERS going by, nothing else being done. */
public final class AheadTest {
    public static void main(String[] args) {
        Checks c = new Checks();
        winners(c);
        wins(c);
        places(c);
        allHome(c);
        allOut(c);
        sixtiethQuarter(c);
        changeNothing(c);
        wrongNumbers(c);
        c.end("AheadTest");
    }

    /** DRAWS by seed 3 below 2: 1 1 1 0 0 0 1 1 0 1 1 0; six goods. */
    private static SoulRaffle six(Checks c) {
        SoulRaffle x = c.open("person a plain coins 9; person b plain coins 9; person n plain coins 0; seed 3;"
            + "good s worth 9 of b; good t worth 9 of b; good u worth 9 of a; good v worth 9 of a; good w worth 9 of a;"
            + "good x worth 9 of a;");
        x.buy(0);
        x.buy(1);
        return x;
    }

    private static void winners(Checks c) {
        SoulRaffle x = six(c);
        c.row("winner", x::winner, -1, 1, 1, 1, 0, 0, 0, -1, -1);
        c.is("winner(60)", x.winner(60), -1);
        c.is("winner(61)", x.winner(61), -1);
        c.is("winner(-1)", x.winner(-1), -1);
        x.quarter();
        c.row("winner a quarter on", x::winner, -1, 1, 1, 0, 0, 0, -1, -1);
        // one that comes back every other quarter, for ever
        SoulRaffle y = c.open("person m mate coins 1; person o plain coins 0; good g worth 1 of o;");
        y.buy(0);
        c.row("winner", y::winner, -1, 0, -1, 0, -1, 0, -1);
        c.is("winner(59)", y.winner(59), 0);
        c.is("winner(60)", y.winner(60), -1);
        c.is("winner(61)", y.winner(61), -1);
    }

    private static void wins(Checks c) {
        SoulRaffle x = six(c);
        c.row("won by a", n -> x.won(0, n), -1, 0, 0, 0, 1, 2, 3, 3);
        c.row("won by b", n -> x.won(1, n), -1, 1, 2, 3, 3, 3, 3, 3);
        c.row("won by n", n -> x.won(2, n), -1, 0, 0);
        c.row("streak of a", n -> x.streak(0, n), -1, 0, 0, 0, 1, 2, 3, 3);
        c.row("streak of b", n -> x.streak(1, n), -1, 1, 2, 3, 3, 3, 3, 3);
        c.is("streak of n", x.streak(2, 60), 0);
        SoulRaffle y = c.open("person m mate coins 1; person o plain coins 0; good g worth 1 of o;");
        y.buy(0);
        c.is("won(0, 60)", y.won(0, 60), 30);
        c.is("won(0, 59)", y.won(0, 59), 30);
        c.is("streak over quarters in which nobody wins", y.streak(0, 60), 30);
        // seed 1 below 2: 0 0 1 1 1 1 0 1 0 0 1 1
        SoulRaffle z = c.open("person m mate coins 1; person n mate coins 1; person o plain coins 0; good g worth 1 of o; seed 1;");
        z.buy(0);
        z.buy(1);
        c.row("winner", z::winner, -1, 0, -1, 0, -1, 1, -1, 1, -1, 1, -1, 1, -1, 0, -1, 1, -1, 0, -1, 0, -1, 1, -1, 1);
        c.is("streak of m", z.streak(0, 24), 2);
        c.is("streak of n", z.streak(1, 24), 4);
        c.is("streak of n by 9", z.streak(1, 9), 3);
        c.is("won by m", z.won(0, 24), 5);
    }

    private static void places(Checks c) {
        SoulRaffle x = six(c);
        c.row("where s", n -> x.where(0, n), -1, 1, 1, 1);
        c.row("where v", n -> x.where(3, n), -1, -1, -1, -1, 0, 0);
        c.is("where(3, 60)", x.where(3, 60), 0);
        c.is("where(3, 61)", x.where(3, 61), -2);
        c.is("where(3, -1)", x.where(3, -1), -2);
        c.wrong("where(_, 1)", g -> x.where(g, 1), 6, -2);
        c.row("has b", g -> x.has(1, g), 1, 2, 3, -1, -1, -1, -1);
        c.row("has a", g -> x.has(0, g), -1, -1, -1, 4, 5, 6, -1);
        c.row("moves", x::moves, 1, 2, 3, 4, 5, 6, -1);
        x.quarter();
        c.is("has now", x.has(1, 0), 0);
        c.is("moves no more", x.moves(0), -1);
        SoulRaffle y = c.open("person m mate coins 1; person o meek coins 0; good g worth 1 of o;");
        y.buy(0);
        y.quarter();
        c.is("moves back", y.moves(0), 1);
        c.is("has it again", y.has(0, 0), 0);
        y.quarter();
        c.is("moves out", y.moves(0), 1);
        c.is("has it later", y.has(0, 0), 1);
        c.is("never", y.has(1, 0), -1);
    }

    private static void allHome(Checks c) {
        c.is("no GOODS", c.open("person a plain coins 1;").home(), 0);
        SoulRaffle x = six(c);
        c.is("u is b's", x.home(), -1);
        SoulRaffle y = c.open("person a plain coins 1; person b plain coins 0; good g worth 1 of b; good h worth 1 of a;");
        y.buy(0);
        c.is("g is a's", y.home(), -1);
        SoulRaffle z = c.open("person a meek coins 1; person b plain coins 0; good g worth 1 of b; good h worth 1 of a;");
        z.buy(0);
        c.is("behind two", z.home(), 2);
        z.quarter();
        c.is("behind one", z.home(), 1);
        z.quarter();
        c.is("now", z.home(), 0);
        z.quarter();
        c.is("still", z.home(), 0);
    }

    private static void allOut(Checks c) {
        c.is("no GOODS", c.open("person a plain coins 1;").empty(), 0);
        SoulRaffle x = six(c);
        c.is("behind six", x.empty(), 6);
        x.quarter();
        c.is("behind five", x.empty(), 5);
        SoulRaffle y = c.open("person m mate coins 1; person o plain coins 0; good g worth 1 of o; good h worth 1 of o;");
        c.is("without tickets", y.empty(), -1);
        y.buy(0);
        c.is("one is always brought", y.empty(), -1);
        SoulRaffle z = c.open("person m mate coins 1; person o plain coins 0; good g worth 1 of o;");
        z.buy(0);
        c.is("behind one", z.empty(), 1);
        z.quarter();
        c.is("now", z.empty(), 0);
    }

    /** Seeds by which what is asked for comes 61 quarters on: one quarter later it comes by 60. */
    private static void sixtiethQuarter(Checks c) {
        SoulRaffle x = c.open("person m mate coins 9; person a plain coins 1; good g worth 1 of a; seed 371;");
        buyNine(x);
        x.buy(1);
        c.is("has by 61", x.has(1, 0), -1);
        c.is("home by 61", x.home(), -1);
        x.quarter();
        c.is("has by 60", x.has(1, 0), 60);
        c.is("home by 60", x.home(), 60);
        c.is("where behind 60", x.where(0, 60), 1);
        c.is("winner of the 60th", x.winner(60), 1);
        c.is("won by 60", x.won(1, 60), 1);
        SoulRaffle y = c.open("person m mate coins 9; person a plain coins 1; good g worth 1 of a; good h worth 1 of a; seed 1698;");
        buyNine(y);
        y.buy(1);
        c.is("empty by 61", y.empty(), -1);
        y.quarter();
        c.is("empty by 60", y.empty(), 60);
        SoulRaffle z = c.open("person m mate coins 9; person p proud coins 1; good d worth 9 of p; good g worth 0 of p;"
            + "fits 9 - others * 9; seed 322;");
        z.buy(1);
        z.quarter();
        buyNine(z);
        c.is("moves by 61", z.moves(0), -1);
        z.quarter();
        c.is("moves by 60", z.moves(0), 60);
    }

    private static void buyNine(SoulRaffle x) {
        for (int i = 0; i < 9; i++) {
            x.buy(0);
        }
    }

    private static void changeNothing(Checks c) {
        SoulRaffle x = six(c);
        x.winner(9);
        x.where(0, 9);
        x.has(0, 0);
        x.home();
        x.empty();
        x.won(0, 9);
        x.streak(0, 9);
        x.moves(0);
        c.row("count", x::count, 3, 6, 0, 63, 2, 16, 0, 0, 0, 2, 0);
        c.is("the DRAW is the same", x.quarter(), 1);
    }

    private static void wrongNumbers(Checks c) {
        SoulRaffle x = six(c);
        c.wrong("has(_, 0)", p -> x.has(p, 0), 3, -1);
        c.wrong("has(0, _)", g -> x.has(0, g), 6, -1);
        c.wrong("won(_, 1)", p -> x.won(p, 1), 3, -1);
        c.wrong("won(0, _)", n -> x.won(0, n), 61, -1);
        c.wrong("streak(_, 1)", p -> x.streak(p, 1), 3, -1);
        c.wrong("streak(0, _)", n -> x.streak(0, n), 61, -1);
        c.wrong("moves", x::moves, 6, -1);
        c.wrong("winner", x::winner, 61, -1);
        c.wrong("where(0, _)", n -> x.where(0, n), 61, -2);
    }
}
