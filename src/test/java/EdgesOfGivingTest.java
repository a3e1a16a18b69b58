/** The edges of promises 32 to 40: BEST, OWES, SPARE, ODDS, ENOUGH, RUN, SEEN, WHO, ASK. */
public final class EdgesOfGivingTest {
    private final Checks c = new Checks();

    public static void main(String[] args) {
        EdgesOfGivingTest t = new EdgesOfGivingTest();
        t.bestOfNothing();
        t.bestOneAtMost();
        t.bestOfEqualRows();
        t.bestNoneBehindAllOthers();
        t.bestByNoOthers();
        t.bestOfOthers();
        t.owesNothing();
        t.owesByHowMuch();
        t.owesOfOthers();
        t.spare();
        t.oddsFromOneToSix();
        t.oddsCut();
        t.oddsWithoutTickets();
        t.enoughFromNoughtTo99();
        t.enoughOrMore();
        t.enoughOfOthers();
        t.runHalfOrLess();
        t.runOfMost();
        t.runOfOthers();
        t.seeHowMuch();
        t.seeEightAtMost();
        t.seeOfOthers();
        t.whoByMoreOrLess();
        t.whoHoldingNothing();
        t.askFromOneTo99();
        t.askOfEqualOnes();
        t.askNonePartsThem();
        t.c.edgesOf(32, 40);
        t.c.end("EdgesOfGivingTest");
    }

    private static String persons(int many) {
        return Checks.persons(many, "plain", 9);
    }

    private void best(SoulRaffle x, int total, int... row) {
        c.is("best(NONE)", x.best(-1), total);
        c.row("best", x::best, row);
    }

    // ---- BEST, OWES, SPARE ----

    private void bestOfNothing() {
        c.edge(32, "BEST, what NONE: how much; else which GOOD a PERSON has in that row (NONE: none)");
        best(new SoulRaffle(), 0, -2);
        best(c.open(persons(6)), 0, -1, -1, -1, -1, -1, -1, -2);
        best(c.open(persons(1) + Checks.goods(1, 0, "a")), 0, 0, -2);
        best(c.open(persons(1) + Checks.goods(1, 30, "a")), 30, 0, -2);
    }

    private void bestOneAtMost() {
        c.edge(32, "BEST: all GOODS, wherever, one at most to each PERSON");
        best(c.open(persons(1) + Checks.goods(8, 5, "a")), 5, 0, -2);
        best(c.open(persons(6) + Checks.goods(8, 5, "a")), 30, 0, 1, 2, 3, 4, 5, -2);
        best(c.open(persons(6) + Checks.goods(1, 5, "a")), 5, 0, -1, -1, -1, -1, -1, -2);
        best(c.open(persons(6) + Checks.goods(8, 5, "a") + "fits 9999;"), 6 * 99, 0, 1, 2, 3, 4, 5, -2);
        SoulRaffle x = c.held(2, persons(2) + Checks.goods(2, 1, "a") + "likes a n 5; likes b m 5;", 0, 0);
        best(x, 12, 1, 0, -2);
        x.bring(0);
        best(x, 12, 1, 0, -2);
        x.bring(1);
        best(x, 12, 1, 0, -2);
    }

    private void bestOfEqualRows() {
        c.edge(32, "of equal ones the first row (of GOODS, by PERSONS;");
        best(c.open(persons(2) + Checks.goods(3, 1, "a")), 2, 0, 1, -2);
        best(c.open(persons(3) + Checks.goods(3, 1, "a") + "likes c m 1;"), 4, 1, 2, 0, -2);
        best(c.open(persons(3) + Checks.goods(3, 1, "a") + "likes b m 1;"), 4, 1, 0, 2, -2);
        best(c.open(persons(3) + Checks.goods(3, 1, "a") + "likes b m 1; likes c m 1;"), 4, 1, 0, 2, -2);
        // 0 1 and 1 0 are worth as much
        best(c.open(persons(2) + Checks.goods(2, 1, "a") + "likes a m 3; likes a n 5; likes b m 2; likes b n 4;"), 9, 0, 1, -2);
        // one more the other way round
        best(c.open(persons(2) + Checks.goods(2, 1, "a") + "likes a m 3; likes a n 6; likes b m 2; likes b n 4;"), 10, 1, 0, -2);
        best(c.open(persons(6) + Checks.goods(8, 1, "a") + "likes a t 1; likes f t 1;"), 7, 0, 1, 2, 3, 4, 7, -2);
    }

    private void bestNoneBehindAllOthers() {
        c.edge(32, "none comes behind all others)");
        best(c.open(persons(2) + Checks.goods(1, 1, "a")), 1, 0, -1, -2);
        best(c.open(persons(2) + Checks.goods(1, 0, "a")), 0, 0, -1, -2);
        best(c.open(persons(2) + Checks.goods(1, 1, "a") + "likes b m 1;"), 2, -1, 0, -2);
        // what FITS 0 comes ahead of none
        best(c.open(persons(2) + "good m worth 0 of a; good n worth 9 of a;"), 9, 0, 1, -2);
        best(c.open(persons(2) + "good m worth 9 of a; good n worth 0 of a;"), 9, 0, 1, -2);
        best(c.open(persons(3) + Checks.goods(2, 0, "a")), 0, 0, 1, -1, -2);
        best(c.open(persons(3) + Checks.goods(2, 0, "a") + "likes c n 1;"), 1, 0, -1, 1, -2);
        best(c.open(persons(6) + Checks.goods(5, 0, "a")), 0, 0, 1, 2, 3, 4, -1, -2);
    }

    private void bestByNoOthers() {
        c.edge(32, "(others 0): the most that they FIT, together");
        SoulRaffle x = c.held(2, persons(2) + Checks.goods(3, 9, "a") + "fits price - others * 4;", 0, 0, 0);
        best(x, 18, 0, 1, -2);
        best(c.open(persons(1) + Checks.goods(2, 9, "a") + "fits others;"), 0, 0, -2);
    }

    private void bestOfOthers() {
        c.edge(32, "(NONE: none); -2: others.");
        SoulRaffle x = c.open(persons(6) + Checks.goods(8, 1, "a"));
        c.is("the last", x.best(5), 5);
        c.is("best(6)", x.best(6), -2);
        c.is("best(-2)", x.best(-2), -2);
        c.is("best of the most", x.best(Integer.MAX_VALUE), -2);
        c.is("best of the least", x.best(Integer.MIN_VALUE), -2);
        c.is("asked again", x.best(-1), 6);
        c.is("another OFFICE", Checks.office(x, persons(1) + Checks.goods(1, 7, "a")), 0);
        best(x, 7, 0, -2);
        for (int many = 1; many <= 6; many++) {
            for (int goods = 0; goods <= 8; goods++) {
                SoulRaffle y = c.open(persons(6) + Checks.goods(8, 9, "a"));
                c.is("of the OFFICE ahead", y.best(-1), 54);
                c.is("an OFFICE of fewer", Checks.office(y, persons(many) + Checks.goods(goods, 1, "a")), 0);
                c.is("best of " + many + " and " + goods, y.best(-1), Math.min(many, goods));
                c.is("the last of " + many + " and " + goods, y.best(many - 1), goods >= many ? many - 1 : -1);
                c.is("owes of " + many + " and " + goods, y.owes(0), goods > 0 && goods < many ? 1 : 0);
            }
        }
    }

    private void owesNothing() {
        c.edge(33, "by how much the most of all others would be more, were that PERSON not there");
        c.row("no GOODS", c.open(persons(2))::owes, 0, 0, -1);
        c.row("alone", c.open(persons(1) + Checks.goods(1, 30, "a"))::owes, 0, -1);
        c.row("enough for all", c.open(persons(2) + Checks.goods(2, 5, "a"))::owes, 0, 0, -1);
        c.row("who has none", c.open(persons(2) + Checks.goods(1, 5, "a"))::owes, 5, 0, -1);
        c.row("what FITS 0", c.open(persons(2) + Checks.goods(1, 0, "a"))::owes, 0, 0, -1);
    }

    private void owesByHowMuch() {
        c.edge(33, "than what these have by that row, together.");
        c.row("by one", c.open(persons(2) + Checks.goods(2, 1, "a") + "likes a m 5; likes b m 1;")::owes, 1, 0, -1);
        c.row("the whole", c.open(persons(2) + Checks.goods(1, 1, "a") + "likes a m 5; likes b m 5;")::owes, 6, 0, -1);
        // without a all move up: b to m, c to n
        c.row("of all others", c.open(persons(3) + Checks.goods(2, 0, "a") + "likes a m 9; likes b m 8; likes b n 7; likes c n 5;")
            ::owes, 6, 5, 0, -1);
        SoulRaffle x = c.open(persons(6) + Checks.goods(1, 9, "a"));
        c.row("of six", x::owes, 9, 0, 0, 0, 0, 0, -1);
        c.is("the row stays", x.best(0), 0);
        c.is("how much stays", x.best(-1), 9);
    }

    private void owesOfOthers() {
        c.edge(33, "OWES; NONE: others.");
        SoulRaffle x = c.open(persons(6) + Checks.goods(8, 1, "a"));
        c.row("owes", x::owes, 0, 0, 0, 0, 0, 0, -1);
        c.wrong("owes", x::owes, 6, -1);
        c.wrong("owes of nobody", new SoulRaffle()::owes, 0, -1);
    }

    private void spare() {
        c.edge(34, "SPARE: GOODS that nobody has by that row (bits).");
        c.is("nothing", new SoulRaffle().spare(), 0);
        c.is("no GOODS", c.open(persons(2)).spare(), 0);
        c.is("as many as PERSONS", c.open(persons(6) + Checks.goods(6, 1, "a")).spare(), 0);
        c.is("fewer", c.open(persons(6) + Checks.goods(5, 1, "a")).spare(), 0);
        c.is("one more", c.open(persons(6) + Checks.goods(7, 1, "a")).spare(), 64);
        c.is("all but the first", c.open(persons(1) + Checks.goods(8, 1, "a")).spare(), 254);
        c.is("all but the last", c.open(persons(1) + Checks.goods(8, 1, "a") + "likes a t 1;").spare(), 127);
        SoulRaffle x = c.held(1, persons(1) + Checks.goods(2, 1, "a"), 0, 0);
        c.is("though HELD", x.spare(), 2);
    }

    // ---- ODDS, ENOUGH, RUN ----

    /** Tickets by PERSONS. */
    private SoulRaffle tickets(int... many) {
        SoulRaffle x = c.open(persons(many.length));
        for (int person = 0; person < many.length; person++) {
            for (int i = 1; i <= many[person]; i++) {
                c.is("buy(" + person + ")", x.buy(person), i);
            }
        }
        return x;
    }

    private void oddsFromOneToSix() {
        c.edge(35, "that they win at least once in so many (1 to 6) QUARTERS with a GOOD in the OFFICE");
        SoulRaffle x = tickets(1, 1);
        c.row("odds", n -> x.odds(0, n), -1, 500000, 750000, 875000, 937500, 968750, 984375, -1);
        c.wrong("odds(0, _)", n -> x.odds(0, n), 7, -1);
        SoulRaffle y = tickets(9, 9, 9, 9, 9, 9);
        c.row("nine of 54", n -> y.odds(5, n), -1, 166666, 305555, 421296, 517746, 598122, 665102, -1);
        SoulRaffle z = tickets(1, 9, 9, 9, 9, 9);
        c.row("one of 46", n -> z.odds(0, n), -1, 21739, 43005, 63809, 84161, 104071, 123548, -1);
    }

    private void oddsCut() {
        c.edge(35, "in millionths, cut.");
        SoulRaffle x = tickets(2, 1);
        c.is("2 of 3", x.odds(0, 1), 666666);
        c.is("1 of 3", x.odds(1, 1), 333333);
        c.is("8 of 9", x.odds(0, 2), 888888);
        SoulRaffle y = tickets(9, 1);
        c.row("all but a millionth at last", n -> y.odds(0, n), -1, 900000, 990000, 999000, 999900, 999990, 999999, -1);
        SoulRaffle z = tickets(9, 0);
        c.row("all tickets", n -> z.odds(0, n), -1, 1000000, 1000000, 1000000, 1000000, 1000000, 1000000, -1);
        c.row("none of them", n -> z.odds(1, n), -1, 0, 0, 0, 0, 0, 0, -1);
    }

    private void oddsWithoutTickets() {
        c.edge(35, "ODDS; NONE: others, no tickets at all.");
        SoulRaffle x = tickets(0, 0, 0, 0, 0, 0);
        c.is("no tickets at all", x.odds(0, 1), -1);
        x.buy(5);
        c.is("one", x.odds(0, 1), 0);
        c.is("the one", x.odds(5, 1), 1000000);
        c.wrong("odds(_, 1)", p -> x.odds(p, 1), 6, -1);
        c.is("no GOOD need be told", x.count(1), 0);
    }

    private void enoughFromNoughtTo99() {
        c.edge(36, "the fewest tickets (0 to 99) that a PERSON must have, those of others as now");
        // of 11 of others 99 are just 90 per cent
        SoulRaffle x = tickets(0, 9, 2);
        c.is("99 tickets", x.enough(0, 90), 99);
        c.is("more than 99", x.enough(0, 91), -1);
        // of 25 of others 100 are just 80 per cent
        SoulRaffle y = tickets(9, 9, 9, 7);
        c.is("less than 100", y.enough(0, 79), 95);
        c.is("100 tickets", y.enough(0, 80), -1);
        c.is("their own do not count", tickets(0, 9, 9, 7).enough(0, 79), 95);
        c.is("nobody wins without a ticket", tickets(0, 0).enough(0, 1), 1);
        c.is("by 99 too", tickets(0, 0).enough(0, 99), 1);
        c.is("their own alone", tickets(9, 0).enough(0, 99), 1);
        c.is("one of others", tickets(0, 1).enough(0, 99), 99);
        c.is("two of others", tickets(0, 2).enough(0, 99), -1);
        c.is("45 of others", tickets(0, 9, 9, 9, 9, 9).enough(0, 68), 96);
        c.is("45 of others", tickets(0, 9, 9, 9, 9, 9).enough(0, 69), -1);
    }

    private void enoughOrMore() {
        c.edge(36, "with so many (1 to 99) per cent, or more.");
        SoulRaffle x = tickets(0, 9);
        int[] percents = {1, 9, 10, 11, 25, 49, 50, 51, 90, 91};
        int[] due = {1, 1, 1, 2, 3, 9, 9, 10, 81, 91};
        for (int i = 0; i < percents.length; i++) {
            c.is("enough(0, " + percents[i] + ")", x.enough(0, percents[i]), due[i]);
        }
        c.is("enough(0, 92)", x.enough(0, 92), -1);
        c.wrong("enough(0, _)", n -> x.enough(0, n), 100, -1);
        c.is("enough(0, 0)", x.enough(0, 0), -1);
        c.is("enough(1, 100), none of others", x.enough(1, 100), -1);
        c.is("enough(1, 99), none of others", x.enough(1, 99), 1);
        c.is("enough(1, 0), none of others", x.enough(1, 0), -1);
    }

    private void enoughOfOthers() {
        c.edge(36, "ENOUGH; NONE: others, not by 99.");
        SoulRaffle x = tickets(1, 1, 1, 1, 1, 1);
        c.is("the last", x.enough(5, 50), 5);
        c.wrong("enough(_, 50)", p -> x.enough(p, 50), 6, -1);
        c.wrong("nobody", p -> new SoulRaffle().enough(p, 50), 0, -1);
    }

    private void runHalfOrLess() {
        c.edge(37, "what is left of 1,000,000 is 500,000 or less");
        c.is("just half", tickets(1, 1).run(0), 1);
        c.is("just half, of 18", tickets(9, 9).run(0), 1);
        c.is("a bit less", tickets(9, 8).run(0), 1);
        c.is("a bit more", tickets(8, 9).run(0), 2);
        c.is("nothing", tickets(1, 0).run(0), 1);
        c.is("nothing of nine", tickets(9, 0).run(0), 1);
        c.is("3 of 10: 700000, 490000", tickets(3, 7).run(0), 2);
        c.is("2 of 7: 714285, 510203, 364430", tickets(2, 5).run(0), 3);
        c.is("1 of 5: 800000, 640000, 512000, 409600", tickets(1, 4).run(0), 4);
        c.is("1 of 4: 750000, 562500, 421875", tickets(1, 3).run(0), 3);
    }

    private void runOfMost() {
        c.edge(37, "in how many (1 to 99) such QUARTERS, tickets as now");
        c.is("one of 46, the longest", tickets(1, 9, 9, 9, 9, 9).run(0), 32);
        c.is("two of 47", tickets(2, 9, 9, 9, 9, 9).run(0), 16);
        c.is("nine of 54", tickets(9, 9, 9, 9, 9, 9).run(5), 4);
        c.is("one of ten", tickets(1, 9).run(0), 7);
    }

    private void runOfOthers() {
        c.edge(37, "RUN; NONE: others, no tickets of theirs, not by 99.");
        SoulRaffle x = tickets(1, 0, 0, 0, 0, 2);
        c.row("run", x::run, 2, -1, -1, -1, -1, 1, -1);
        c.wrong("run", x::run, 6, -1);
        c.is("no tickets at all", tickets(0, 0).run(0), -1);
        c.wrong("nobody", new SoulRaffle()::run, 0, -1);
    }

    // ---- SEEN, WHO, ASK ----

    private void seeHowMuch() {
        c.edge(38, "finds that a GOOD FITS so much (0 to 99) or more, or less");
        for (boolean so : new boolean[] {true, false}) {
            SoulRaffle x = c.open(persons(1) + Checks.goods(1, 1, "a"));
            for (int much : new int[] {0, 1, 98, 99}) {
                c.is("see(0, " + much + ", " + so + ")", x.see(0, much, so), true);
            }
            for (int much : new int[] {-1, 100, -2, 101, Integer.MAX_VALUE, Integer.MIN_VALUE}) {
                c.is("see(0, " + much + ", " + so + ")", x.see(0, much, so), false);
            }
            c.is("SEEN", x.count(8), 4);
        }
    }

    private void seeEightAtMost() {
        c.edge(38, "or less; 8 at most.");
        SoulRaffle x = c.open(persons(2) + Checks.goods(1, 1, "a") + "likes b m 1;");
        for (int i = 1; i <= 7; i++) {
            c.is("see", x.see(0, 1, true), true);
            c.is("SEEN", x.count(8), i);
            c.is("who", x.who(), 3);
        }
        c.is("an eighth", x.see(0, 2, false), true);
        c.is("SEEN", x.count(8), 8);
        c.is("who, by the eighth, too", x.who(), 1);
        c.is("a ninth", x.see(0, 9, true), false);
        c.is("SEEN", x.count(8), 8);
        c.is("who, not by the ninth", x.who(), 1);
    }

    private void seeOfOthers() {
        c.edge(38, "SEEN: true; false: others, 8 there are.");
        SoulRaffle x = c.open(persons(1) + Checks.goods(8, 1, "a"));
        c.wrong("see(_, 1, true)", g -> x.see(g, 1, true) ? 1 : 0, 8, 0);
        c.wrong("see(_, 1, false)", g -> x.see(g, 1, false) ? 1 : 0, 8, 0);
        c.is("SEEN", x.count(8), 0);
        c.is("who", x.who(), 1);
        c.is("the first", x.see(0, 1, true), true);
        c.is("the last", x.see(7, 1, true), true);
        c.is("nothing told", new SoulRaffle().see(0, 1, true), false);
        SoulRaffle y = c.open("");
        c.is("nobody told", y.see(0, 1, true), false);
    }

    private void whoByMoreOrLess() {
        c.edge(39, "WHO: PERSONS by whom all SEEN is so (bits).");
        c.is("nothing SEEN", c.open(persons(6)).who(), 63);
        c.is("nobody told", c.open("").who(), 0);
        for (int much = 4; much <= 7; much++) {
            // m FITS 5 to a, 6 to b
            SoulRaffle x = c.open(persons(2) + Checks.goods(1, 5, "a") + "likes b m 1;");
            x.see(0, much, true);
            c.is(much + " or more", x.who(), much <= 5 ? 3 : much == 6 ? 2 : 0);
            SoulRaffle y = c.open(persons(2) + Checks.goods(1, 5, "a") + "likes b m 1;");
            y.see(0, much, false);
            c.is("less than " + much, y.who(), much <= 5 ? 0 : much == 6 ? 1 : 3);
        }
        SoulRaffle z = c.open(persons(2) + "good m worth 0 of a; good n worth 1 of b; fits mine * 100;");
        z.see(0, 0, true);
        c.is("0 or more", z.who(), 3);
        z.see(0, 99, true);
        c.is("99 or more", z.who(), 1);
        z.see(1, 99, true);
        c.is("all SEEN", z.who(), 0);
        SoulRaffle v = c.open(persons(2) + "good m worth 0 of a; fits mine * 100;");
        v.see(0, 99, false);
        c.is("less than 99", v.who(), 2);
        v.see(0, 0, false);
        c.is("less than 0", v.who(), 0);
    }

    private void whoHoldingNothing() {
        c.edge(39, "HOLDING nothing, an unknown PERSON, one of those told");
        SoulRaffle x = c.held(2, persons(2) + Checks.goods(3, 5, "a") + "fits price + others;", 0, 0);
        c.is("fit", x.fit(0, 0), 6);
        x.see(0, 6, true);
        c.is("6 or more, HOLDING nothing", x.who(), 0);
        SoulRaffle y = c.held(2, persons(2) + Checks.goods(3, 5, "a") + "fits price - others;", 0, 0);
        y.see(2, 5, true);
        c.is("5 or more, HOLDING nothing", y.who(), 3);
    }

    private void askFromOneTo99() {
        c.edge(40, "the GOOD, and the least number (1 to 99)");
        String three = persons(2) + "good m worth 0 of a; fits ";
        c.is("0 and 1", c.open(three + "mine;").ask(), 1);
        c.is("1 and 2", c.open(three + "mine + 1;").ask(), 2);
        c.is("97 and 98", c.open(three + "mine + 97;").ask(), 98);
        c.is("98 and 99", c.open(three + "mine + 98;").ask(), 99);
        c.is("99 and 100, cut", c.open(three + "mine + 99;").ask(), -1);
        c.is("0 and 99", c.open(three + "mine * 99;").ask(), 1);
        c.is("0 and less, cut", c.open(three + "0 - mine;").ask(), -1);
        c.is("the last GOOD", c.open(persons(2) + Checks.goods(7, 0, "a") + "good t worth 0 of b; fits like * 99;"
            + "likes a t 1;").ask(), 701);
    }

    private void askOfEqualOnes() {
        c.edge(40, "of equal ones the first by GOODS, then the number.");
        c.is("the first GOOD", c.open(persons(2) + Checks.goods(2, 0, "a") + "likes a m 5; likes a n 1;").ask(), 1);
        c.is("by less", c.open(persons(4) + Checks.goods(2, 0, "a") + "likes a m 5; likes a n 1; likes b n 1;").ask(), 101);
        c.is("the least number", c.open(persons(3) + Checks.goods(1, 0, "a") + "likes a m 5; likes b m 9;").ask(), 1);
        c.is("of four, two and two", c.open(persons(4) + Checks.goods(1, 0, "a") + "likes a m 5; likes b m 9; likes c m 2;").ask(), 3);
    }

    private void askNonePartsThem() {
        c.edge(40, "ASK, as 100 * the GOOD + the number; NONE: none parts them.");
        c.is("nothing", new SoulRaffle().ask(), -1);
        c.is("no GOODS", c.open(persons(6)).ask(), -1);
        c.is("one PERSON", c.open(persons(1) + Checks.goods(8, 5, "a")).ask(), -1);
        c.is("all alike", c.open(persons(6) + Checks.goods(8, 5, "a")).ask(), -1);
        c.is("one of six", c.open(persons(6) + Checks.goods(8, 5, "a") + "likes f t 1;").ask(), 706);
        SoulRaffle x = c.open(persons(2) + Checks.goods(1, 5, "a") + "likes b m 1;");
        c.is("two", x.ask(), 6);
        x.see(0, 6, true);
        c.is("one of these", x.ask(), -1);
        x.see(0, 6, false);
        c.is("none of these", x.ask(), -1);
        c.edge(40, "if that is less than all");
        SoulRaffle y = c.held(2, persons(2) + Checks.goods(2, 5, "a") + "fits others;", 0, 0);
        c.is("HOLDING nothing all alike", y.ask(), -1);
    }
}
