/** The edges of promise 13: JUDGED. */
public final class EdgesOfTheYearTest {
    private final Checks c = new Checks();

    public static void main(String[] args) {
        EdgesOfTheYearTest t = new EdgesOfTheYearTest();
        t.others();
        t.noLines();
        t.fromTheBegin();
        t.buyThatCantBe();
        t.swapThatCantBe();
        t.bringThatCantBe();
        t.leftOut();
        t.firstAndLastLine();
        t.firstLineHome();
        t.howManyAtLast();
        t.changesNothing();
        t.c.edgesOf(13, 13);
        t.c.end("EdgesOfTheYearTest");
    }

    private void judges(SoulRaffle x, String year, int... due) {
        c.is("year() of " + year, Checks.year(x, year), 0);
        for (int what = 0; what < due.length; what++) {
            c.is("judged(" + what + ") of " + year, x.judged(what), due[what]);
        }
    }

    private void others() {
        c.edge(13, "2: how many; -2: others.");
        SoulRaffle x = c.open(Checks.persons(1, "plain", 1) + Checks.goods(1, 1, "a"));
        judges(x, "bring m; buy a; quarter;", 0, 2, 1, -2);
        c.wrong("judged", x::judged, 3, -2);
        c.wrong("judged by a new object", new SoulRaffle()::judged, 3, -2);
    }

    private void noLines() {
        c.edge(13, "lines (NONE: none)");
        SoulRaffle x = c.open(Checks.persons(1, "plain", 1) + Checks.goods(1, 1, "a"));
        c.row("without a YEAR", x::judged, -1, -1, 0, -2);
        judges(x, "", -1, -1, 0);
        judges(x, "quarter;", -1, -1, 0);
        judges(x, "bring m;", 0, -1, 0);
    }

    private void fromTheBegin() {
        c.edge(13, "JUDGED: the YEAR from the begin");
        int seed = Checks.seed(2, 0, 1, 1, 0);
        SoulRaffle x = c.open(Checks.persons(2, "plain", 1) + "good m worth 1 of b; good n worth 1 of a; good o worth 1 of a;"
            + "good p worth 1 of a; seed " + seed + ";");
        String year = "buy a; buy b; quarter; quarter; quarter; quarter; buy a;";
        judges(x, year, -1, 5, 1);
        x.buy(0);
        c.row("shillings are those told", x::judged, -1, 5, 1);
        x.quarter();
        c.row("all GOODS are in the OFFICE, the DRAWS are the first", x::judged, -1, 5, 1);
        x.buy(0);
        x.quarter();
        x.quarter();
        c.row("all the same", x::judged, -1, 5, 1);
        c.is("bring", x.bring(0) >= 0, true);
        c.row("all the same", x::judged, -1, 5, 1);
        x.undo();
        c.row("all the same", x::judged, -1, 5, 1);
    }

    private void buyThatCantBe() {
        c.edge(13, "that can't be (buy; swap; bring of one in the OFFICE;");
        SoulRaffle x = c.open("person a plain coins 0; person b plain coins 1; person d plain coins 50;");
        judges(x, "buy a;", 0, -1, 0);
        judges(x, "buy b;", -1, -1, 0);
        judges(x, "buy b; buy b;", 1, -1, 0);
        judges(x, "buy b; quarter; buy b;", -1, -1, 0);
        judges(x, "quarter; buy a; buy a;", 2, -1, 0);
        judges(x, "buy d;".repeat(9), -1, -1, 0);
        judges(x, "buy d;".repeat(10), 9, -1, 0);
    }

    private void swapThatCantBe() {
        c.edge(13, "that can't be (buy; swap;");
        int seed = Checks.seed(2, 0, 1, 1);
        String text = Checks.persons(2, "plain", 9) + Checks.goods(3, 9, "a") + "seed " + seed + ";";
        String ahead = "buy a; buy b; quarter; quarter;";
        SoulRaffle x = c.open(text + "likes a n 1; likes b m 1; likes a o 9; likes b o 9;");
        judges(x, "swap m n;", 0, -1, 0);
        judges(x, ahead + "swap m n;", -1, 2, 1);
        judges(x, ahead + "swap n m;", -1, 2, 1);
        judges(x, ahead + "swap m n; swap m n;", 5, 2, 1);
        judges(x, ahead + "swap m o;", 4, 2, 1);
        judges(x, ahead + "swap o m;", 4, 2, 1);
        judges(x, ahead + "quarter; swap o n;", 5, 2, 1);
        SoulRaffle y = c.open(text + "likes a n 1;");
        judges(y, ahead + "swap m n;", 4, 2, 1);
        SoulRaffle z = c.open(text + "likes b m 1;");
        judges(z, ahead + "swap m n;", 4, 2, 1);
    }

    private void bringThatCantBe() {
        c.edge(13, "bring of one in the OFFICE");
        SoulRaffle x = c.open(Checks.persons(1, "plain", 1) + Checks.goods(2, 1, "a"));
        judges(x, "bring m;", 0, -1, 0);
        judges(x, "buy a; quarter; bring m;", -1, 1, 0);
        judges(x, "buy a; quarter; bring m; bring m;", 3, 1, 0);
        judges(x, "buy a; quarter; bring n;", 2, 1, 1);
    }

    private void leftOut() {
        c.edge(13, "lines that can't be are left out");
        SoulRaffle x = c.open(Checks.persons(2, "plain", 1) + Checks.goods(2, 1, "b") + "seed " + Checks.seed(1, 0) + ";");
        judges(x, "buy b; buy b; buy b; quarter;", 1, 3, 1);
        judges(x, "bring m; swap m n; buy b; bring n; quarter; quarter;", 0, 4, 2);
        judges(x, "buy a; buy a; quarter; quarter; bring m; quarter;", 1, -1, 0);
    }

    private void firstAndLastLine() {
        c.edge(13, "the first line (from 0) that can't be");
        SoulRaffle x = c.open(Checks.persons(1, "plain", 1) + Checks.goods(1, 1, "a"));
        judges(x, "bring m;" + "quarter;".repeat(39), 0, -1, 0);
        judges(x, "quarter;" + "bring m;".repeat(39), 1, -1, 0);
        judges(x, "quarter;".repeat(38) + "bring m; quarter;", 38, -1, 0);
        judges(x, "quarter;".repeat(39) + "bring m;", 39, -1, 0);
        judges(x, "quarter;".repeat(40), -1, -1, 0);
    }

    private void firstLineHome() {
        c.edge(13, "the first line behind which a GOOD is HELD by the one whose it is by rights");
        SoulRaffle x = c.open(Checks.persons(1, "plain", 1) + Checks.goods(2, 1, "a"));
        judges(x, "buy a; quarter;" + "quarter;".repeat(38), -1, 1, 2);
        judges(x, "quarter;".repeat(38) + "buy a; quarter;", -1, 39, 1);
        judges(x, "quarter;".repeat(37) + "buy a; quarter; quarter;", -1, 38, 2);
        judges(x, "buy a; quarter; bring m; quarter;", -1, 1, 1);
        judges(x, "quarter;".repeat(39) + "buy a;", -1, -1, 0);
        SoulRaffle y = c.open("person a meek coins 1; person b plain coins 0;" + Checks.goods(1, 1, "b"));
        judges(y, "buy a; quarter;", -1, -1, 0);
        judges(y, "buy a; quarter; quarter;", -1, 2, 1);
    }

    private void howManyAtLast() {
        c.edge(13, "how many are at last.");
        SoulRaffle x = c.open(Checks.persons(1, "plain", 1) + Checks.goods(8, 1, "a"));
        for (int i = 0; i <= 9; i++) {
            judges(x, "buy a;" + "quarter;".repeat(i), -1, i == 0 ? -1 : 1, Math.min(8, i));
        }
        judges(x, "buy a;" + "quarter;".repeat(8) + "bring m; bring t;", -1, 1, 6);
        SoulRaffle y = c.open(Checks.persons(2, "plain", 1) + Checks.goods(8, 1, "a"));
        judges(y, "buy b;" + "quarter;".repeat(8), -1, -1, 0);
    }

    private void changesNothing() {
        c.edge(13, "JUDGED: the YEAR from the begin");
        SoulRaffle x = c.open(Checks.persons(1, "plain", 1) + Checks.goods(2, 1, "a"));
        x.buy(0);
        x.quarter();
        judges(x, "buy a; bring n; quarter; quarter;", 1, 2, 2);
        c.row("count", x::count, 1, 2, 1, 2, 1, 1, 1, 4, 0, 2, 0);
        c.is("undo", x.undo(), true);
        c.row("asked again", x::judged, 1, 2, 2);
        c.row("and again", x::judged, 1, 2, 2);
    }
}
