/** Promises 32 to 37: BEST, OWES, SPARE, ODDS, ENOUGH, RUN. */
public final class GivingTest {
    public static void main(String[] args) {
        Checks c = new Checks();
        bestOfFew(c);
        bestOfMany(c);
        bestWhereverTheyAre(c);
        firstRow(c);
        owes(c);
        askedFirst(c);
        odds(c);
        enough(c);
        run(c);
        wrongNumbers(c);
        c.end("GivingTest");
    }

    private static void best(Checks c, SoulRaffle x, int total, int... row) {
        c.is("best(-1)", x.best(-1), total);
        c.row("best", x::best, row);
    }

    private static void bestOfFew(Checks c) {
        best(c, c.open("person a plain coins 1; person b plain coins 1;"), 0, -1, -1, -2);
        SoulRaffle x = c.open("person a plain coins 1; person b plain coins 1; good g worth 3 of a; likes b g 1;");
        best(c, x, 4, -1, 0, -2);
        c.is("spare", x.spare(), 0);
        SoulRaffle y = c.open("person a plain coins 1; good g worth 3 of a; good h worth 4 of a; good k worth 4 of a;");
        best(c, y, 4, 1, -2);
        c.is("spare", y.spare(), 5);
        // the one who would have most of h gives it up to the other
        SoulRaffle z = c.open("person a plain coins 1; person b plain coins 1; good g worth 5 of a; good h worth 5 of a;"
            + "likes a h 5; likes b h 9;");
        best(c, z, 19, 0, 1, -2);
        c.row("owes", z::owes, 0, 5, -1);
    }

    private static void bestOfMany(Checks c) {
        SoulRaffle x = c.open("person a plain coins 1; person b plain coins 1; person d plain coins 1; person e plain coins 1;"
            + "person f plain coins 1; person h plain coins 1; good m worth 0 of a; good n worth 0 of a; good o worth 0 of a;"
            + "good p worth 0 of a; good q worth 0 of a; good r worth 0 of a; good s worth 0 of a; good t worth 30 of a;"
            + "likes a t 1; likes b s 2; likes d r 3; likes e q 4; likes f p 5; likes h o 6; likes h t 20;");
        // t is best with h: 50, less 6 for o
        best(c, x, 50 + 2 + 3 + 4 + 5, 0, 6, 5, 4, 3, 7, -2);
        c.is("spare", x.spare(), 6);
        c.row("owes", x::owes, 0, 0, 0, 0, 0, 31, -1);
    }

    private static void bestWhereverTheyAre(Checks c) {
        SoulRaffle x = c.open("person a plain coins 9; person b plain coins 9; good g worth 3 of a; good h worth 1 of a;"
            + "likes b h 4; fits price + like - others * 3;");
        x.buy(0);
        x.quarter();
        x.quarter();
        best(c, x, 8, 0, 1, -2);
        c.is("asked again", x.best(-1), 8);
        c.is("owes(1)", x.owes(1), 0);
        c.is("as ahead", x.best(1), 1);
        Checks.office(x, "person a plain coins 9; good g worth 7 of a;");
        best(c, x, 7, 0, -2);
    }

    private static void firstRow(Checks c) {
        best(c, c.open("person a plain coins 1; person b plain coins 1; good g worth 3 of a; good h worth 3 of a;"), 6, 0, 1, -2);
        best(c, c.open("person a plain coins 1; person b plain coins 1; good g worth 3 of a;"), 3, 0, -1, -2);
        // a GOOD that fits 0 comes ahead of none
        best(c, c.open("person a plain coins 1; person b plain coins 1; good g worth 0 of a; good h worth 9 of a;"), 9, 0, 1, -2);
        best(c, c.open("person a plain coins 1; good g worth 0 of a; good h worth 0 of a;"), 0, 0, -2);
        // by PERSONS: the first has the first that leaves it the most
        best(c, c.open("person a plain coins 1; person b plain coins 1; person d plain coins 1; good g worth 1 of a;"
            + "good h worth 1 of a; good k worth 1 of a; likes d g 2;"), 5, 1, 2, 0, -2);
    }

    private static void owes(Checks c) {
        SoulRaffle x = c.open("person a plain coins 1; person b plain coins 1; person d plain coins 1; good g worth 1 of a;"
            + "likes a g 9; likes b g 6; likes d g 3;");
        best(c, x, 10, 0, -1, -1, -2);
        c.row("owes", x::owes, 7, 0, 0, -1);
        // without a: b moves up to g, d to h
        SoulRaffle y = c.open("person a plain coins 1; person b plain coins 1; person d plain coins 1; good g worth 0 of a;"
            + "good h worth 0 of a; likes a g 10; likes b g 9; likes b h 8; likes d h 5;");
        best(c, y, 18, 0, 1, -1, -2);
        c.row("owes", y::owes, 6, 5, 0, -1);
    }

    /** Each is asked first of a new office. */
    private static void askedFirst(Checks c) {
        String office = "person a plain coins 1; person b plain coins 1; good g worth 5 of a; good h worth 5 of a;"
            + "good k worth 1 of a; likes a h 5; likes b h 9;";
        c.is("owes", c.open(office).owes(1), 5);
        c.is("spare", c.open(office).spare(), 4);
        c.is("best of b", c.open(office).best(1), 1);
        c.is("best", c.open(office).best(-1), 19);
    }

    private static SoulRaffle tickets(Checks c, int a, int b) {
        SoulRaffle x = c.open("person a plain coins 50; person b plain coins 50; person d plain coins 1;");
        for (int i = 0; i < a; i++) {
            x.buy(0);
        }
        for (int i = 0; i < b; i++) {
            x.buy(1);
        }
        return x;
    }

    private static void odds(Checks c) {
        SoulRaffle x = tickets(c, 1, 2);
        c.row("odds of a", n -> x.odds(0, n), -1, 333333, 555555, 703703, 802469, 868312, 912208, -1);
        c.row("odds of b", n -> x.odds(1, n), -1, 666666, 888888, 962962, 987654, 995884, 998628, -1);
        c.row("odds of d", n -> x.odds(2, n), -1, 0, 0, 0, 0, 0, 0, -1);
        SoulRaffle y = tickets(c, 9, 0);
        c.is("all tickets", y.odds(0, 6), 1000000);
        c.is("the only ticket", tickets(c, 1, 0).odds(0, 1), 1000000);
        c.is("none", y.odds(1, 1), 0);
        c.is("no tickets at all", tickets(c, 0, 0).odds(0, 1), -1);
        SoulRaffle z = c.open("person a plain coins 9; person b plain coins 9; person d plain coins 9; person e plain coins 9;"
            + "person f plain coins 9; person g plain coins 9;");
        for (int i = 0; i < 54; i++) {
            z.buy(i / 9);
        }
        // 1 - (45 / 54) ^ 6
        c.is("odds of 9 of 54", z.odds(5, 6), 665102);
    }

    private static void enough(Checks c) {
        SoulRaffle x = tickets(c, 1, 2);
        c.is("a by 1", x.enough(0, 1), 1);
        c.is("a by 33", x.enough(0, 33), 1);
        c.is("a by 34", x.enough(0, 34), 2);
        c.is("a by 50", x.enough(0, 50), 2);
        c.is("a by 51", x.enough(0, 51), 3);
        c.is("a by 98", x.enough(0, 98), 98);
        c.is("a by 99", x.enough(0, 99), -1);
        c.is("b by 99", x.enough(1, 99), 99);
        c.is("d by 75", x.enough(2, 75), 9);
        SoulRaffle v = c.open("person n plain coins 0; person a plain coins 9; person b plain coins 9; person d plain coins 9;");
        for (int i = 0; i < 19; i++) {
            v.buy(1 + i / 9);
        }
        c.is("of 19 of others by 83", v.enough(0, 83), 93);
        c.is("of 19 of others by 84, a hundred", v.enough(0, 84), -1);
        SoulRaffle y = tickets(c, 3, 0);
        c.is("none of others, by 100", y.enough(0, 100), -1);
        c.is("none of others, by 0", y.enough(0, 0), -1);
        c.is("none of others", y.enough(0, 99), 1);
        c.is("none of others, by 1", y.enough(0, 1), 1);
        c.is("none at all", tickets(c, 0, 0).enough(1, 1), 1);
        c.is("b by 1", y.enough(1, 1), 1);
    }

    private static void run(Checks c) {
        SoulRaffle x = tickets(c, 1, 2);
        c.row("run", x::run, 2, 1, -1, -1);
        c.is("all tickets", tickets(c, 4, 0).run(0), 1);
        c.is("half", tickets(c, 5, 5).run(0), 1);
        c.is("just below half", tickets(c, 4, 5).run(0), 2);
        SoulRaffle z = c.open("person a plain coins 9; person b plain coins 9; person d plain coins 9; person e plain coins 9;"
            + "person f plain coins 9; person g plain coins 9;");
        for (int i = 0; i < 46; i++) {
            z.buy(i / 9);
        }
        c.is("one of 46", z.run(5), 32);
        c.is("nine of 46", z.run(0), 4);
        // cut in each: 1000000, 888888, 790122, 702330, 624293, 554927, 493268
        c.is("one of nine", tickets(c, 1, 8).run(0), 6);
    }

    private static void wrongNumbers(Checks c) {
        SoulRaffle x = tickets(c, 1, 2);
        c.is("best(-2)", x.best(-2), -2);
        c.is("best(3)", x.best(3), -2);
        c.is("best of the most", x.best(Integer.MAX_VALUE), -2);
        c.is("best of the least", x.best(Integer.MIN_VALUE), -2);
        c.wrong("owes", x::owes, 3, -1);
        c.wrong("odds(_, 1)", p -> x.odds(p, 1), 3, -1);
        c.wrong("odds(0, _)", n -> x.odds(0, n), 7, -1);
        c.wrong("enough(_, 50)", p -> x.enough(p, 50), 3, -1);
        c.wrong("enough(0, _)", n -> x.enough(0, n), 100, -1);
        c.is("enough(0, 0)", x.enough(0, 0), -1);
        c.wrong("run", x::run, 3, -1);
    }
}
