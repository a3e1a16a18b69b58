/** Promises 4 and 13: a YEAR, its FAULTS, and JUDGED. */
public final class YearTest {
    private static final String OFFICE = "person a plain coins 2; person b plain coins 1; good g worth 1 of b;"
        + "good h worth 2 of a; likes a g 9; likes b h 9; seed 5;";

    public static void main(String[] args) {
        Checks c = new Checks();
        reads(c);
        faults(c);
        fortyLines(c);
        judges(c);
        judgesFromTheBegin(c);
        judgesSwaps(c);
        c.end("YearTest");
    }

    private static void reads(Checks c) {
        SoulRaffle x = c.open(OFFICE);
        c.is("year()", Checks.year(x, "quarter;buy a;swap g h;swap h g;bring g;\nquarter ;"), 0);
        c.is("lines", x.count(7), 6);
        c.is("nothing is done by it", x.count(2), 0);
        c.is("a YEAR with a fault", Checks.year(x, "buy b; buy"), 1 + 16 * 10);
        c.is("lines stay", x.count(7), 6);
        c.is("a blank YEAR", Checks.year(x, "  "), 0);
        c.is("no lines", x.count(7), 0);
        c.is("a YEAR without an OFFICE", Checks.year(new SoulRaffle(), "quarter; quarter;"), 0);
    }

    private static void faults(Checks c) {
        SoulRaffle x = c.open(OFFICE);
        c.yearFault(x, 1, "^tram");
        c.yearFault(x, 1, "^person a plain coins 1;");
        c.yearFault(x, 1, "^;");
        c.yearFault(x, 1, "quarter ^1;");
        c.yearFault(x, 1, "quarter^");
        c.yearFault(x, 1, "quarter  ^");
        c.yearFault(x, 1, "quarter ^quarter;");
        c.yearFault(x, 1, "buy^");
        c.yearFault(x, 1, "buy ^;");
        c.yearFault(x, 1, "buy ^buy;");
        c.yearFault(x, 1, "buy ^2;");
        c.yearFault(x, 1, "buy ^mate;");
        c.yearFault(x, 1, "buy a ^b;");
        c.yearFault(x, 1, "swap ^not g;");
        c.yearFault(x, 1, "swap g ^or;");
        c.yearFault(x, 1, "swap g ^;");
        c.yearFault(x, 1, "swap g h ^g;");
        c.yearFault(x, 1, "bring ^;");
        c.yearFault(x, 1, "bring ^coins;");
        c.yearFault(x, 1, "bring g ^h;");
        c.yearFault(x, 1, "bring ^abcdefghi;");
        c.yearFault(x, 2, "buy ^g;");
        c.yearFault(x, 2, "buy ^z;");
        c.yearFault(x, 2, "swap ^a g;");
        c.yearFault(x, 2, "swap ^z g;");
        c.yearFault(x, 2, "swap g ^b;");
        c.yearFault(x, 2, "swap g ^z;");
        c.yearFault(x, 2, "bring ^a;");
        c.yearFault(x, 2, "bring ^z;");
        c.yearFault(x, 3, "swap g ^g;");
        c.yearFault(x, 3, "swap h ^h");
        c.yearFault(new SoulRaffle(), 2, "buy ^a;");
        c.yearFault(new SoulRaffle(), 2, "bring ^g;");
    }

    private static void fortyLines(Checks c) {
        SoulRaffle x = c.open(OFFICE);
        String forty = "bring g;".repeat(40);
        c.is("forty lines", Checks.year(x, forty), 0);
        c.is("lines", x.count(7), 40);
        c.yearFault(x, 5, forty + "^quarter;");
        c.yearFault(x, 5, forty + "^swap g g;");
        c.yearFault(x, 1, forty + "^good");
        c.yearFault(x, 1, forty + "^.");
    }

    private static int[] judged(Checks c, SoulRaffle x, String year) {
        c.is("year() of " + year, Checks.year(x, year), 0);
        return new int[] {x.judged(0), x.judged(1), x.judged(2)};
    }

    private static void is(Checks c, SoulRaffle x, String year, int... due) {
        int[] got = judged(c, x, year);
        for (int what = 0; what < 3; what++) {
            c.is("judged(" + what + ") of " + year, got[what], due[what]);
        }
    }

    private static void judges(Checks c) {
        SoulRaffle x = c.open(OFFICE);
        is(c, x, "", -1, -1, 0);
        is(c, x, "quarter;", -1, -1, 0);
        is(c, x, "buy a;buy a;", -1, -1, 0);
        is(c, x, "buy a;buy a;buy a;buy b;buy b;", 2, -1, 0);
        is(c, x, "buy a;quarter;", -1, -1, 0);
        is(c, x, "buy a;quarter;quarter;", -1, 2, 1);
        is(c, x, "bring g;buy a;quarter;bring g;bring g;", 0, -1, 0);
        is(c, x, "buy b;quarter;", -1, 1, 1);
        is(c, x, "buy b;quarter;bring g;quarter;bring g;", -1, 1, 0);
        is(c, x, "quarter;buy b;swap g h;quarter;swap h g;", 2, 3, 1);
        c.wrong("judged", x::judged, 3, -2);
    }

    /** Lines are done from what the OFFICE told, whatever has been done by hand; and change nothing. */
    private static void judgesFromTheBegin(Checks c) {
        SoulRaffle x = c.open("person a plain coins 1; person b plain coins 1; good g worth 1 of a; good h worth 2 of b;"
            + "likes a h 9; likes b g 9; seed 5;");
        c.is("buy(0)", x.buy(0), 1);
        c.is("quarter()", x.quarter(), 0);
        c.is("year()", Checks.year(x, "bring g;buy a;quarter;bring g;buy b;quarter;"), 0);
        c.row("judged", x::judged, 0, 2, 0);
        c.is("the quarter", x.count(2), 1);
        c.is("who holds g", x.good(0, 2), 0);
        c.is("tickets", x.count(4), 1);
        c.is("what can be undone", x.count(9), 2);
        SoulRaffle y = c.open("person a plain coins 1; person b plain coins 1; person m meek coins 0; good g worth 1 of a;"
            + "good h worth 2 of b; likes a h 9; likes b g 9;");
        is(c, y, "buy a;quarter;swap g h;", 2, 1, 1);
        c.is("judged twice", y.judged(0), 2);
    }

    /** Swaps of a YEAR are done, by the very two that it names. */
    private static void judgesSwaps(Checks c) {
        // DRAWS by seed 1 below 1, 1, 2: 0 0 1: a has g and k, b has h
        SoulRaffle x = c.open("person a plain coins 1; person b plain coins 1; person m plain coins 0; good g worth 1 of m;"
            + "good k worth 1 of b; good h worth 1 of a; likes a h 5; likes b k 5; likes b g 5; seed 1;");
        String ahead = "buy a;quarter;quarter;buy b;quarter;";
        is(c, x, ahead, -1, -1, 0);
        is(c, x, ahead + "swap k h;", -1, 5, 2);
        is(c, x, ahead + "swap h k;quarter;", -1, 5, 2);
        is(c, x, ahead + "swap g h;", -1, 5, 1);
        is(c, x, ahead + "swap h g;swap g h;bring h;", 6, 5, 0);
        is(c, x, ahead + "swap g k;swap h k;", 5, 6, 2);
    }
}
