/** The edges of promises 5, 6 and 8 to 13: PERSONS, GOODS, BUY, SWAP, BRING, QUARTER, UNDO, JUDGED. */
public final class EdgesOfTheDeedsTest {
    private final Checks c = new Checks();

    public static void main(String[] args) {
        EdgesOfTheDeedsTest t = new EdgesOfTheDeedsTest();
        t.persons();
        t.goods();
        t.aShilling();
        t.fewerThanNineTickets();
        t.ticketsAreForGood();
        t.buyByOthers();
        t.swapFitsMore();
        t.swapByWhatTheyKeep();
        t.swapOfTwoPersons();
        t.swapOfOthers();
        t.brings();
        t.goodInTheOffice();
        t.anyTicket();
        t.firstOfTheseGoods();
        t.countedByPersons();
        t.drawWrapsAround();
        t.noDrawWithoutAPrize();
        t.heldAheadOfThat();
        t.proud();
        t.meek();
        t.mate();
        t.byTheirNumbers();
        t.fiftyAtMost();
        t.quarterByQuarter();
        t.undoNothing();
        t.undoSixteen();
        t.undoOneByOne();
        t.undoWhatWasRefused();
        t.c.edgesOf(5, 6);
        t.c.edgesOf(8, 12);
        t.c.end("EdgesOfTheDeedsTest");
    }

    private void persons() {
        c.edge(5, "3: GOODS they HOLD, as bits; NONE: others.");
        SoulRaffle x = c.held(6, Checks.persons(6, "plain", 9) + Checks.goods(8, 3, "a"), 5, 0, 5);
        c.row("of the first", what -> x.person(0, what), 0, 11, 1, 2, -1, -1);
        c.row("of the last", what -> x.person(5, what), 0, 11, 1, 5, -1, -1);
        c.row("of one who HOLDS nothing", what -> x.person(1, what), 0, 11, 1, 0, -1);
        for (int what = 0; what <= 3; what++) {
            int asked = what;
            c.wrong("person(_, " + what + ")", p -> x.person(p, asked), 6, -1);
        }
        c.wrong("person(0, _)", what -> x.person(0, what), 4, -1);
        SoulRaffle y = c.held(1, Checks.persons(1, "plain", 9) + Checks.goods(8, 3, "a"), 0, 0, 0, 0, 0, 0, 0, 0);
        c.is("all eight", y.person(0, 3), 255);
        c.wrong("of one PERSON", p -> y.person(p, 1), 1, -1);
    }

    private void goods() {
        c.edge(6, "2: who HOLDS it (NONE: the OFFICE); -2: others.");
        SoulRaffle x = c.held(6, Checks.persons(6, "plain", 9) + Checks.goods(8, 3, "f"), 5, 0, 5, 2, 3, 4, 1);
        c.row("holders", g -> x.good(g, 2), 5, 0, 5, 2, 3, 4, 1, -1, -2);
        c.row("of the first", what -> x.good(0, what), 3, 5, 5, -2, -2);
        c.row("of the last", what -> x.good(7, what), 3, 5, -1, -2, -2);
        for (int what = 0; what <= 2; what++) {
            int asked = what;
            c.wrong("good(_, " + what + ")", g -> x.good(g, asked), 8, -2);
        }
        c.wrong("good(0, _)", what -> x.good(0, what), 3, -2);
        SoulRaffle y = c.open(Checks.persons(1, "plain", 9) + Checks.goods(1, 3, "a"));
        c.wrong("of one GOOD", g -> y.good(g, 0), 1, -2);
    }

    // ---- BUY ----

    private void aShilling() {
        c.edge(8, "BUY: a PERSON who has a shilling");
        SoulRaffle x = c.open("person a plain coins 0; person b plain coins 1; person d plain coins 2;");
        c.is("with none", x.buy(0), -1);
        c.is("no ticket of it", x.person(0, 2), 0);
        c.is("not below none", x.person(0, 1), 0);
        c.is("with one", x.buy(1), 1);
        c.is("none is left", x.person(1, 1), 0);
        c.is("once more", x.buy(1), -1);
        c.is("with two", x.buy(2), 1);
        c.is("one is left", x.person(2, 1), 1);
        c.is("once more", x.buy(2), 2);
        c.is("once more", x.buy(2), -1);
        x.quarter();
        c.is("with that of the quarter", x.buy(0), 1);
        c.is("and no more", x.buy(0), -1);
    }

    private void fewerThanNineTickets() {
        c.edge(8, "fewer than 9 tickets has one shilling less, one ticket more");
        SoulRaffle x = c.open(Checks.persons(2, "plain", 50));
        for (int tickets = 1; tickets <= 9; tickets++) {
            c.is("buy", x.buy(0), tickets);
            c.is("tickets", x.person(0, 2), tickets);
            c.is("shillings", x.person(0, 1), 50 - tickets);
        }
        c.is("a tenth", x.buy(0), -1);
        c.is("tickets", x.person(0, 2), 9);
        c.is("shillings", x.person(0, 1), 41);
        c.is("another one's first", x.buy(1), 1);
        SoulRaffle y = c.open("person a plain coins 9;");
        for (int tickets = 1; tickets <= 9; tickets++) {
            c.is("the ninth by the last shilling", y.buy(0), tickets);
        }
        c.is("no shilling, nine tickets", y.buy(0), -1);
        y.quarter();
        c.is("a shilling, nine tickets", y.buy(0), -1);
    }

    private void ticketsAreForGood() {
        c.edge(8, "tickets are for good.");
        SoulRaffle x = c.open(Checks.persons(2, "plain", 9) + Checks.goods(1, 3, "a"));
        x.buy(0);
        x.buy(0);
        c.is("wins", x.quarter(), 0);
        c.is("tickets behind a win", x.person(0, 2), 2);
        x.quarter();
        x.bring(0);
        c.is("tickets behind a bring", x.person(0, 2), 2);
        c.is("tickets of all", x.count(4), 2);
    }

    private void buyByOthers() {
        c.edge(8, "BUY: tickets then; NONE: others, it can't be.");
        SoulRaffle x = c.open(Checks.persons(6, "plain", 9));
        c.is("the first", x.buy(0), 1);
        c.is("the last", x.buy(5), 1);
        c.wrong("buy", x::buy, 6, -1);
        c.is("tickets of all", x.count(4), 2);
        c.is("shillings of all", x.count(5), 52);
        c.is("what can be undone", x.count(9), 2);
    }

    // ---- SWAP ----

    /** a HOLDS m and b HOLDS n, worth 9 each; o, too, lies in the OFFICE. */
    private SoulRaffle twoHold(String rest) {
        SoulRaffle x = c.held(2, Checks.persons(2, "plain", 9) + Checks.goods(3, 9, "a") + rest, 0, 1);
        c.row("who HOLDS", g -> x.good(g, 2), 0, 1, -1);
        return x;
    }

    private void swapFitsMore() {
        c.edge(9, "if to each of these the one that they get then FITS more than the one that they give");
        String[] likes = {"", "likes a n 1;", "likes a n 2;", "likes a m 1;", "likes a m 1;likes a n 1;", "likes a m 1;likes a n 2;"};
        int[] gains = {0, 1, 2, -1, 0, 1};
        String[] likesOfB = {"", "likes b m 1;", "likes b m 2;", "likes b n 1;", "likes b n 1;likes b m 1;",
            "likes b n 1;likes b m 2;"};
        for (int a = 0; a < likes.length; a++) {
            for (int b = 0; b < likesOfB.length; b++) {
                boolean can = gains[a] > 0 && gains[b] > 0;
                SoulRaffle x = twoHold(likes[a] + likesOfB[b]);
                c.is("swap where a gains " + gains[a] + ", b " + gains[b], x.swap(0, 1), can);
                c.row("who HOLDS", g -> x.good(g, 2), can ? 1 : 0, can ? 0 : 1, -1);
                c.is("what can be undone", x.count(9), can ? 5 : 4);
                SoulRaffle y = twoHold(likes[a] + likesOfB[b]);
                c.is("the other way round", y.swap(1, 0), can);
            }
        }
    }

    private void swapByWhatTheyKeep() {
        c.edge(9, "(others, for both GOODS, being those they keep)");
        // a HOLDS m and o and keeps one, b HOLDS n and keeps none; by one kept it is price that counts, by none like
        String law = "fits (others = 0) * like + (others = 1) * price;";
        String goods = "good m worth 1 of a; good n worth 2 of a; good o worth 9 of a;";
        int[] holders = {0, 1, 0};
        SoulRaffle x = c.held(2, Checks.persons(2, "plain", 9) + goods + "likes a m 9; likes b m 2; likes b n 1;" + law, holders);
        c.is("a gains by price, b by like", x.swap(0, 1), true);
        SoulRaffle y = c.held(2, Checks.persons(2, "plain", 9) + goods + "likes a n 9; likes b o 2; likes b n 1;" + law, holders);
        c.is("a loses by price", y.swap(2, 1), false);
        SoulRaffle z = c.held(2, Checks.persons(2, "plain", 9) + goods + "likes b m 1; likes b n 2;" + law, holders);
        c.is("b loses by like", z.swap(0, 1), false);
        SoulRaffle v = c.held(2, Checks.persons(2, "plain", 9) + goods + "likes b m 1; likes b n 1;" + law, holders);
        c.is("b has as much by like", v.swap(0, 1), false);
        SoulRaffle all = c.held(2, Checks.persons(2, "plain", 9) + Checks.goods(7, 1, "a") + "good t worth 2 of a;"
            + "likes b m 9; fits price + like + others * 9;", 0, 0, 0, 0, 0, 0, 0, 1);
        c.is("six kept, none kept", all.swap(0, 7), true);
    }

    private void swapOfTwoPersons() {
        c.edge(9, "two GOODS that two PERSONS, not the same, HOLD change hands");
        SoulRaffle x = c.held(2, Checks.persons(2, "plain", 9) + Checks.goods(4, 5, "a") + "likes a n 5; likes a o 5; likes b m 5;"
            + "likes a p 9; likes b p 9;", 0, 1, 0);
        c.is("two of one", x.swap(0, 2), false);
        c.is("one in the OFFICE", x.swap(0, 3), false);
        c.is("one in the OFFICE, told first", x.swap(3, 0), false);
        c.is("both in it", x.swap(3, 3), false);
        c.is("two of two", x.swap(0, 1), true);
        SoulRaffle y = c.open(Checks.persons(2, "plain", 9) + Checks.goods(2, 5, "a") + "likes a n 5; likes b m 5;");
        c.is("both in the OFFICE", y.swap(0, 1), false);
    }

    private void swapOfOthers() {
        c.edge(9, "SWAP: true; false: others, the same, it can't be.");
        SoulRaffle x = c.held(2, Checks.persons(2, "plain", 9) + Checks.goods(8, 5, "a") + "likes a t 5; likes b m 5;",
            0, 0, 0, 0, 0, 0, 0, 1);
        c.is("the same", x.swap(0, 0), false);
        c.is("the same, the last", x.swap(7, 7), false);
        c.wrong("swap(_, 0)", g -> x.swap(g, 0) ? 1 : 0, 8, 0);
        c.wrong("swap(0, _)", g -> x.swap(0, g) ? 1 : 0, 8, 0);
        c.wrong("swap(_, _)", g -> x.swap(g, g) ? 1 : 0, 8, 0);
        c.is("what can be undone", x.count(9), 10);
        c.is("the first with the last", x.swap(0, 7), true);
        c.is("what can be undone", x.count(9), 11);
    }

    // ---- BRING ----

    private void brings() {
        c.edge(10, "BRING: who HELD it; NONE: others, the OFFICE.");
        SoulRaffle x = c.held(6, Checks.persons(6, "plain", 9) + Checks.goods(8, 5, "a"), 5, 0, 1, 2);
        c.is("one in the OFFICE", x.bring(4), -1);
        c.is("the last, in the OFFICE", x.bring(7), -1);
        c.wrong("bring", x::bring, 8, -1);
        c.is("what can be undone", x.count(9), 10);
        c.row("bring", x::bring, 5, 0, 1, 2, -1);
        c.is("what can be undone", x.count(9), 14);
        c.is("again", x.bring(0), -1);
        c.is("all in the OFFICE", x.count(3), 255);
        c.is("what can be undone", x.count(9), 14);
    }

    // ---- QUARTER ----

    private void goodInTheOffice() {
        c.edge(11, "QUARTER: if there is a GOOD in the OFFICE");
        SoulRaffle x = c.held(1, Checks.persons(1, "plain", 9) + Checks.goods(2, 5, "a"), 0);
        c.is("one is left", x.quarter(), 0);
        c.is("none is left", x.quarter(), -1);
        x.bring(1);
        c.is("one came back", x.quarter(), 0);
        SoulRaffle y = c.open(Checks.persons(1, "plain", 9));
        y.buy(0);
        c.is("no GOODS are told", y.quarter(), -1);
        c.edge(11, "QUARTER: who wins; NONE: nobody.");
        SoulRaffle z = c.open("");
        c.is("no PERSONS are told", z.quarter(), -1);
        c.is("the next quarter", z.count(2), 1);
    }

    private void anyTicket() {
        c.edge(11, "and any ticket");
        SoulRaffle x = c.open(Checks.persons(2, "plain", 9) + Checks.goods(2, 5, "a"));
        c.is("without a ticket", x.quarter(), -1);
        c.is("all in the OFFICE", x.count(3), 3);
        x.buy(1);
        c.is("by one ticket", x.quarter(), 1);
        x.buy(1);
        c.is("by two of one", x.quarter(), 1);
    }

    private void firstOfTheseGoods() {
        c.edge(11, "the first of these GOODS is won");
        SoulRaffle x = c.held(1, Checks.persons(1, "plain", 9) + Checks.goods(8, 5, "a"), 0, 0, 0, 0, 0, 0, 0);
        c.is("the last is left", x.count(3), 128);
        x.bring(6);
        x.quarter();
        c.is("the last but one goes ahead", x.count(3), 128);
        x.quarter();
        c.is("then the last", x.count(3), 0);
        x.bring(7);
        x.bring(0);
        x.quarter();
        c.is("the first goes ahead", x.count(3), 128);
    }

    private void countedByPersons() {
        c.edge(11, "a DRAW below all tickets, these counted by PERSONS.");
        // 2, 0, 9, 1, 0, 3: 15 tickets
        int[] tickets = {2, 0, 9, 1, 0, 3};
        int[] winners = {0, 0, 2, 2, 2, 2, 2, 2, 2, 2, 2, 3, 5, 5, 5};
        for (int ticket = 0; ticket < winners.length; ticket++) {
            SoulRaffle x = c.open(Checks.persons(6, "plain", 9) + Checks.goods(1, 5, "a")
                + "seed " + Checks.seed(winners.length, ticket) + ";");
            for (int person = 0; person < tickets.length; person++) {
                for (int i = 0; i < tickets[person]; i++) {
                    x.buy(person);
                }
            }
            c.is("winner of ticket " + ticket, x.quarter(), winners[ticket]);
            c.is("who HOLDS it", x.good(0, 2), winners[ticket]);
        }
        // all tickets that there can be: 54
        for (int ticket = 0; ticket < 54; ticket++) {
            SoulRaffle x = c.open(Checks.persons(6, "plain", 9) + Checks.goods(1, 5, "a") + "seed " + Checks.seed(54, ticket) + ";");
            for (int i = 0; i < 54; i++) {
                x.buy(i / 9);
            }
            c.is("winner of ticket " + ticket, x.quarter(), ticket / 9);
        }
    }

    /** Mates bring what they win: a DRAW every other quarter, as long as one likes. */
    private void drawWrapsAround() {
        c.edge(11, "g becomes (g * 1103515245 + 12345) modulo 2147483648");
        for (int seed : new int[] {0, 1, 2, 1945, 1946, 1947, 9998, 9999}) {
            SoulRaffle x = c.open(Checks.persons(5, "mate", 9) + "person o plain coins 0;" + Checks.goods(1, 5, "o")
                + "seed " + seed + ";");
            for (int i = 0; i < 45; i++) {
                x.buy(i / 9);
            }
            long g = seed;
            for (int i = 0; i < 100; i++) {
                g = Checks.next(g);
                c.is("seed " + seed + ", DRAW " + i, x.quarter(), Checks.drawn(g, 45) / 9);
                c.is("between them", x.quarter(), -1);
            }
        }
    }

    private void noDrawWithoutAPrize() {
        c.edge(11, "is won: a DRAW below all tickets");
        int seed = Checks.seed(2, 0, 1, 1, 0);
        SoulRaffle x = c.open(Checks.persons(2, "plain", 9) + Checks.goods(2, 5, "a") + "seed " + seed + ";");
        x.quarter();
        x.quarter();
        x.buy(0);
        x.buy(1);
        c.is("the first DRAW, behind two quarters without a ticket", x.quarter(), 0);
        c.is("the second", x.quarter(), 1);
        c.is("nothing to be won", x.quarter(), -1);
        x.bring(0);
        c.is("the third, behind a quarter without a GOOD", x.quarter(), 1);
        x.bring(1);
        c.is("the fourth", x.quarter(), 0);
    }

    private void heldAheadOfThat() {
        c.edge(11, "Then of all GOODS HELD ahead of that");
        for (String kind : new String[] {"proud", "mate", "meek"}) {
            SoulRaffle x = c.open("person a " + kind + " coins 9; person b plain coins 0;" + Checks.goods(1, 0, "b"));
            x.buy(0);
            x.quarter();
            c.is("just won, by a " + kind + " one", x.good(0, 2), 0);
            x.quarter();
            c.is("held ahead, by a " + kind + " one", x.good(0, 2), kind.equals("meek") ? 1 : -1);
        }
        SoulRaffle y = c.open("person a proud coins 9;" + Checks.goods(1, 0, "a"));
        y.buy(0);
        y.quarter();
        y.quarter();
        c.is("brought, and not won in the same quarter", y.good(0, 2), -1);
        c.is("but in the next", y.quarter(), 0);
    }

    private void proud() {
        c.edge(11, "a proud one BRINGS one that FITS less than 5");
        for (int worth = 0; worth <= 7; worth++) {
            SoulRaffle x = c.open("person a proud coins 9;" + Checks.goods(1, worth, "a"));
            x.buy(0);
            x.quarter();
            x.quarter();
            c.is("one that FITS " + worth, x.good(0, 2), worth < 5 ? -1 : 0);
        }
        // others count: 7 and 7, less 2 or 3 for each other
        for (int less = 2; less <= 3; less++) {
            SoulRaffle x = c.open("person a proud coins 9;" + Checks.goods(2, 7, "a") + "fits price - others * " + less + ";");
            x.buy(0);
            x.quarter();
            x.quarter();
            c.is("beside what was just won it FITS " + (7 - less), x.good(0, 2), less == 2 ? 0 : -1);
            c.is("what was just won stays", x.good(1, 2), 0);
        }
        SoulRaffle z = c.open("person a proud coins 9; person b plain coins 0;" + Checks.goods(1, 5, "b"));
        z.buy(0);
        z.quarter();
        z.quarter();
        c.is("another one's that FITS 5", z.good(0, 2), 0);
    }

    private void meek() {
        c.edge(11, "a meek one gives one that is of another by rights to that one");
        SoulRaffle x = c.open("person a meek coins 9; person b meek coins 0; person d proud coins 0; person e mate coins 0;"
            + "good m worth 0 of a; good n worth 0 of b; good o worth 0 of d; good p worth 0 of e;");
        x.buy(0);
        for (int i = 0; i < 4; i++) {
            c.is("wins", x.quarter(), 0);
        }
        // o was given in the fourth, and n in the third; p was just won
        c.row("who HOLDS", g -> x.good(g, 2), 0, 1, 2, 0);
        c.is("nothing to be won", x.quarter(), -1);
        c.row("who HOLDS", g -> x.good(g, 2), 0, 1, -1, 3);
        c.is("o again", x.quarter(), 0);
        c.row("who HOLDS", g -> x.good(g, 2), 0, 1, 0, 3);
    }

    private void mate() {
        c.edge(11, "a mate BRINGS one that is not theirs by rights");
        SoulRaffle x = c.open("person a mate coins 9; person b plain coins 0; good m worth 30 of b; good n worth 0 of a;");
        x.buy(0);
        x.quarter();
        c.row("m is won", g -> x.good(g, 2), 0, -1);
        x.quarter();
        c.row("m is brought, n is won", g -> x.good(g, 2), -1, 0);
        x.quarter();
        c.row("m is won, n stays", g -> x.good(g, 2), 0, 0);
        x.quarter();
        c.row("m is brought, n stays", g -> x.good(g, 2), -1, 0);
        SoulRaffle y = c.held(1, "person a plain coins 9; person b mate coins 0;" + Checks.goods(1, 1, "b"), 0);
        y.quarter();
        c.is("a plain one keeps all", y.good(0, 2), 0);
    }

    private void byTheirNumbers() {
        c.edge(11, "by their numbers");
        // worth 10, they FIT 6 by two others, 4 by three: the first of four is brought, the others FIT 6 then
        SoulRaffle x = c.open("person a proud coins 9;" + Checks.goods(4, 10, "a") + "fits price - others * 2;");
        x.buy(0);
        x.quarter();
        x.quarter();
        x.quarter();
        c.is("three that fit 6", x.person(0, 3), 7);
        x.quarter();
        c.is("of four the first fits 4, the others 6 then", x.person(0, 3), 14);
        c.edge(11, "(each by how it is then)");
        // p HOLDS n, a has won m: that is given ahead of n, which FITS 4 besides it then
        String persons = "person a meek coins 9; person p proud coins 9; fits price - others * 2;";
        SoulRaffle y = c.open(persons + "good m worth 9 of p; good n worth 6 of p;"
            + "seed " + Checks.seed(new int[] {1, 1, 2}, new int[] {0, 0, 0}) + ";");
        y.buy(1);
        c.is("m by p", y.quarter(), 1);
        c.is("n by p", y.quarter(), 1);
        y.bring(0);
        y.buy(0);
        c.is("m by a", y.quarter(), 0);
        c.is("nothing is won", y.quarter(), -1);
        c.row("m is given, then n is brought", g -> y.good(g, 2), 1, -1);
        // p HOLDS m, a has won n: m is asked, and FITS 6, ahead of that
        SoulRaffle z = c.open(persons + "good m worth 6 of p; good n worth 9 of p;"
            + "seed " + Checks.seed(new int[] {1, 2}, new int[] {0, 0}) + ";");
        z.buy(1);
        c.is("m by p", z.quarter(), 1);
        z.buy(0);
        c.is("n by a", z.quarter(), 0);
        c.is("nothing is won", z.quarter(), -1);
        c.row("m is kept, then n is given", g -> z.good(g, 2), 1, 1);
        c.is("nothing is won", z.quarter(), -1);
        c.row("m FITS 4 in the next", g -> z.good(g, 2), -1, 1);
    }

    private void fiftyAtMost() {
        c.edge(11, "Each PERSON has a shilling more, 50 at most");
        SoulRaffle x = c.open("person a plain coins 0; person b proud coins 48; person d meek coins 49; person e mate coins 50;");
        c.row("shillings", p -> x.person(p, 1), 0, 48, 49, 50);
        x.quarter();
        c.row("shillings", p -> x.person(p, 1), 1, 49, 50, 50);
        x.quarter();
        c.row("shillings", p -> x.person(p, 1), 2, 50, 50, 50);
        x.buy(3);
        c.is("one less", x.person(3, 1), 49);
        x.quarter();
        c.row("shillings", p -> x.person(p, 1), 3, 50, 50, 50);
        for (int i = 0; i < 60; i++) {
            x.quarter();
        }
        c.row("shillings", p -> x.person(p, 1), 50, 50, 50, 50);
    }

    private void quarterByQuarter() {
        c.edge(11, "it is the next quarter.");
        SoulRaffle x = c.open(Checks.persons(1, "plain", 1) + Checks.goods(1, 1, "a"));
        x.buy(0);
        for (int i = 0; i < 100; i++) {
            c.is("the quarter", x.count(2), i);
            c.is("who wins", x.quarter(), i == 0 ? 0 : -1);
        }
        c.is("the quarter", x.count(2), 100);
    }

    // ---- UNDO ----

    private void undoNothing() {
        c.edge(12, "UNDO: true; false: nothing can be.");
        SoulRaffle x = c.open(Checks.persons(1, "plain", 9));
        c.is("nothing yet", x.undo(), false);
        x.buy(0);
        c.is("one", x.undo(), true);
        c.is("nothing more", x.undo(), false);
        c.is("nothing more", x.undo(), false);
        c.is("shillings", x.count(5), 9);
    }

    private void undoSixteen() {
        c.edge(12, "UNDO: all of these, the last 16, one by one.");
        for (int deeds = 15; deeds <= 17; deeds++) {
            SoulRaffle x = new SoulRaffle();
            for (int i = 0; i < deeds; i++) {
                x.quarter();
            }
            int can = Math.min(16, deeds);
            c.is("what can be undone", x.count(9), can);
            for (int i = 1; i <= can; i++) {
                c.is("undo", x.undo(), true);
                c.is("the quarter", x.count(2), deeds - i);
                c.is("what can be undone", x.count(9), can - i);
            }
            c.is("no more", x.undo(), false);
            c.is("the quarter", x.count(2), deeds - can);
        }
        SoulRaffle y = new SoulRaffle();
        for (int i = 0; i < 100; i++) {
            y.quarter();
            if (i % 3 == 2) {
                y.undo();
            }
        }
        c.is("to and fro", y.count(2), 67);
        c.is("what can be undone", y.count(9), 16);
        for (int i = 0; i < 16; i++) {
            c.is("undo", y.undo(), true);
        }
        c.is("no more", y.undo(), false);
        c.is("the quarter", y.count(2), 67 - 16);
    }

    private void undoOneByOne() {
        c.edge(12, "the last 16, one by one.");
        SoulRaffle x = twoHold("likes a n 1; likes b m 1;");
        x.swap(0, 1);
        x.bring(1);
        x.quarter();
        c.is("what can be undone", x.count(9), 7);
        int winner = x.good(1, 2);
        c.is("undo quarter", x.undo(), true);
        c.row("who HOLDS", g -> x.good(g, 2), 1, -1, -1);
        c.is("the quarter", x.count(2), 2);
        c.is("shillings", x.count(5), 9 + 9 - 2 + 4);
        c.is("the same again", x.quarter(), winner);
        c.is("undo quarter", x.undo(), true);
        c.is("undo bring", x.undo(), true);
        c.row("who HOLDS", g -> x.good(g, 2), 1, 0, -1);
        c.is("undo swap", x.undo(), true);
        c.row("who HOLDS", g -> x.good(g, 2), 0, 1, -1);
        c.is("undo quarter", x.undo(), true);
        c.row("who HOLDS", g -> x.good(g, 2), 0, -1, -1);
        c.is("undo buy", x.undo(), true);
        c.is("tickets", x.person(1, 2), 0);
        c.is("shillings", x.person(1, 1), 10);
        c.is("undo quarter", x.undo(), true);
        c.row("who HOLDS", g -> x.good(g, 2), -1, -1, -1);
        c.is("undo buy", x.undo(), true);
        c.is("tickets", x.count(4), 0);
        c.is("shillings", x.count(5), 18);
        c.is("nothing more", x.undo(), false);
        c.is("it all goes again", x.buy(0) + x.quarter() + x.buy(1) + x.quarter(), 1 + 0 + 1 + 1);
    }

    private void undoWhatWasRefused() {
        c.edge(12, "UNDO: true; false: nothing can be.");
        SoulRaffle x = c.open("person a plain coins 0;" + Checks.goods(2, 1, "a"));
        x.buy(0);
        x.buy(7);
        x.swap(0, 1);
        x.swap(0, 0);
        x.bring(0);
        x.bring(-1);
        x.see(0, 1, true);
        x.mark(0, false);
        Checks.year(x, "quarter;");
        x.luck(1, 9, 0);
        x.winner(9);
        c.is("none of these", x.count(9), 0);
        c.is("undo", x.undo(), false);
        c.is("what is SEEN stays", x.count(8), 1);
        c.is("the YEAR stays", x.count(7), 1);
        x.quarter();
        c.is("a quarter in which nobody wins", x.undo(), true);
        c.is("undo", x.undo(), false);
    }
}
