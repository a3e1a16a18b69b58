/** Promises 5 to 12: PERSONS and GOODS, FIT, BUY, SWAP, BRING, QUARTER, UNDO. */
public final class DeedsTest {
    public static void main(String[] args) {
        Checks c = new Checks();
        persons(c);
        goods(c);
        fits(c);
        buys(c);
        swaps(c);
        swapsByWhatIsKept(c);
        brings(c);
        draws(c);
        quarters(c);
        proud(c);
        proudByHowItIsThen(c);
        meek(c);
        mate(c);
        shillings(c);
        undoes(c);
        undoesSixteen(c);
        c.end("DeedsTest");
    }

    private static void persons(Checks c) {
        SoulRaffle x = c.open("person a mate coins 3; person b meek coins 9; good g worth 1 of a; good h worth 2 of b;");
        x.buy(1);
        x.buy(1);
        x.quarter();
        x.quarter();
        c.row("a", what -> x.person(0, what), 3, 5, 0, 1, -1);
        c.row("b", what -> x.person(1, what), 2, 9, 2, 2, -1);
        c.wrong("person(_, 0)", p -> x.person(p, 0), 2, -1);
        c.wrong("person(0, _)", what -> x.person(0, what), 4, -1);
    }

    private static void goods(Checks c) {
        SoulRaffle x = c.open("person a plain coins 3; person b plain coins 9; good g worth 30 of a; good h worth 2 of b;");
        x.buy(1);
        x.quarter();
        c.row("g", what -> x.good(0, what), 30, 0, 1, -2);
        c.row("h", what -> x.good(1, what), 2, 1, -1, -2);
        c.wrong("good(_, 0)", g -> x.good(g, 0), 2, -2);
        c.wrong("good(_, 2)", g -> x.good(g, 2), 2, -2);
        c.wrong("good(0, _)", what -> x.good(0, what), 3, -2);
    }

    private static void fits(Checks c) {
        SoulRaffle x = c.open("person a plain coins 3; person b plain coins 9; good g worth 30 of a; good h worth 2 of b;"
            + "likes b h 20; likes a g 5;");
        c.row("fit to a", g -> x.fit(0, g), 35, 2, -1);
        c.row("fit to b", g -> x.fit(1, g), 30, 22, -1);
        c.wrong("fit(_, 0)", p -> x.fit(p, 0), 2, -1);
        c.wrong("fit(0, _)", g -> x.fit(0, g), 2, -1);
    }

    private static void buys(Checks c) {
        SoulRaffle x = c.open("person a plain coins 2; person b plain coins 50;");
        c.is("buy(0)", x.buy(0), 1);
        c.is("shillings", x.person(0, 1), 1);
        c.is("buy(0)", x.buy(0), 2);
        c.is("without a shilling", x.buy(0), -1);
        c.is("tickets", x.person(0, 2), 2);
        for (int i = 1; i <= 9; i++) {
            c.is("buy(1)", x.buy(1), i);
        }
        c.is("a tenth", x.buy(1), -1);
        c.is("shillings", x.person(1, 1), 41);
        c.is("tickets", x.count(4), 11);
        c.wrong("buy", x::buy, 2, -1);
        c.is("what can be undone", x.count(9), 11);
        x.quarter();
        c.is("tickets are for good", x.count(4), 11);
        c.is("a shilling more", x.buy(0), 3);
    }

    /** a and b hold one each: g and h; a third lies in the office. */
    private static SoulRaffle bothHold(Checks c, String rest) {
        SoulRaffle x = c.open("person a plain coins 9; person b plain coins 9; good g worth 5 of a; good h worth 5 of b;"
            + "good k worth 5 of b; seed 2;" + rest);
        c.is("buy(0)", x.buy(0), 1);
        c.is("quarter()", x.quarter(), 0);
        c.is("buy(1)", x.buy(1), 1);
        c.is("quarter()", x.quarter(), 1);
        c.row("who holds", g -> x.good(g, 2), 0, 1, -1);
        return x;
    }

    private static void swaps(Checks c) {
        SoulRaffle x = bothHold(c, "likes a h 1; likes b g 1;");
        c.is("the same", x.swap(0, 0), false);
        c.is("with one in the office", x.swap(0, 2), false);
        c.is("of one in the office", x.swap(2, 0), false);
        c.wrong("swap(_, 0)", g -> x.swap(g, 0) ? 1 : 0, 3, 0);
        c.wrong("swap(0, _)", g -> x.swap(0, g) ? 1 : 0, 3, 0);
        c.is("what can be undone", x.count(9), 4);
        c.is("swap(0, 1)", x.swap(0, 1), true);
        c.row("who holds", g -> x.good(g, 2), 1, 0, -1);
        c.is("what can be undone", x.count(9), 5);
        c.is("back again", x.swap(0, 1), false);
        SoulRaffle y = bothHold(c, "likes a h 1; likes b g 1;");
        c.is("swap(1, 0)", y.swap(1, 0), true);
        c.is("the one alone gains", bothHold(c, "likes a h 1;").swap(0, 1), false);
        c.is("the other alone gains", bothHold(c, "likes b g 1;").swap(0, 1), false);
        c.is("none gains", bothHold(c, "").swap(0, 1), false);
        c.is("the one loses", bothHold(c, "likes a g 1; likes b g 3;").swap(0, 1), false);
        SoulRaffle z = bothHold(c, "likes a h 1; likes b g 1; likes a k 9; likes b k 9;");
        z.quarter();
        c.is("two of one PERSON", z.swap(z.good(2, 2) == 0 ? 0 : 1, 2), false);
    }

    private static void swapsByWhatIsKept(Checks c) {
        SoulRaffle x = bothHold(c, "fits price + like - others * 5; likes a h 1; likes b g 1;");
        c.is("swap where nothing is kept", x.swap(0, 1), true);
        // a keeps k, so that price alone counts; b keeps nothing, so that like does
        SoulRaffle y = c.open("person a plain coins 9; person b plain coins 9; good g worth 1 of a; good k worth 0 of a;"
            + "good h worth 2 of b; likes a g 5; likes b g 3; seed 1; fits (others < 1) * like + (others = 1) * price;");
        y.buy(0);
        y.quarter();
        y.quarter();
        y.buy(1);
        y.quarter();
        c.row("who holds", good -> y.good(good, 2), 0, 0, 1);
        c.is("swap(1, 2)", y.swap(1, 2), false);
        c.is("swap(0, 2)", y.swap(0, 2), true);
        c.row("who holds", good -> y.good(good, 2), 1, 0, 0);
    }

    private static void brings(Checks c) {
        SoulRaffle x = bothHold(c, "");
        c.is("bring(2)", x.bring(2), -1);
        c.is("what can be undone", x.count(9), 4);
        c.is("bring(0)", x.bring(0), 0);
        c.is("bring(0) again", x.bring(0), -1);
        c.is("bring(1)", x.bring(1), 1);
        c.is("all in the office", x.count(3), 7);
        c.is("what can be undone", x.count(9), 6);
        c.wrong("bring", x::bring, 3, -1);
    }

    /** DRAWS by seed 3 below 2: 1 1 1 0 0 0 1 1 0 1 1 0; below 3: 2 0 0 2 0 1 0 0 2 1. */
    private static void draws(Checks c) {
        String goods = "good s worth 9 of a; good t worth 9 of a; good u worth 9 of a; good v worth 9 of a;"
            + "good w worth 9 of a; good x worth 9 of a;";
        SoulRaffle x = c.open("person a plain coins 9; person b plain coins 9; seed 3;" + goods);
        x.quarter();
        x.buy(0);
        x.buy(1);
        for (int due : new int[] {1, 1, 1, 0, 0, 0, -1, -1}) {
            c.is("quarter()", x.quarter(), due);
        }
        x.bring(3);
        c.is("a DRAW more", x.quarter(), 1);
        c.is("who holds it", x.good(3, 2), 1);
        SoulRaffle y = c.open("person a plain coins 9; person b plain coins 9; person z mate coins 1; seed 3;" + goods);
        y.buy(2);
        y.buy(0);
        y.buy(0);
        for (int due : new int[] {2, 0, 0, 2, 0, 0}) {
            c.is("quarter() by three tickets", y.quarter(), due);
        }
    }

    private static void quarters(Checks c) {
        SoulRaffle x = c.open("person a plain coins 1; good g worth 0 of a; good h worth 0 of a;");
        c.is("without tickets", x.quarter(), -1);
        c.is("the quarter", x.count(2), 1);
        c.is("shillings", x.count(5), 2);
        x.buy(0);
        c.is("the first GOOD", x.quarter(), 0);
        c.is("in the office", x.count(3), 2);
        c.is("the next", x.quarter(), 0);
        c.is("none left", x.quarter(), -1);
        c.is("the quarter", x.count(2), 4);
        x.bring(1);
        x.bring(0);
        c.is("the first again", x.quarter(), 0);
        c.is("in the office", x.count(3), 2);
        SoulRaffle y = c.open("person a plain coins 1; good g worth 0 of a; person b plain coins 5;");
        c.is("no GOODS", c.open("person a plain coins 1;").quarter(), -1);
        y.buy(1);
        c.is("who has the ticket", y.quarter(), 1);
    }

    private static void proud(Checks c) {
        SoulRaffle x = c.open("person p proud coins 9; good a worth 4 of p; good b worth 5 of p;");
        x.buy(0);
        c.is("wins a", x.quarter(), 0);
        c.is("a is not held ahead of that", x.count(3), 2);
        c.is("wins b", x.quarter(), 0);
        c.is("a is brought", x.count(3), 1);
        c.is("wins a", x.quarter(), 0);
        c.is("b is kept", x.count(3), 0);
        c.is("nobody wins", x.quarter(), -1);
        c.is("a is brought still", x.count(3), 1);
    }

    private static void proudByHowItIsThen(Checks c) {
        SoulRaffle x = c.open("person p proud coins 9; good a worth 7 of p; good b worth 7 of p; good d worth 30 of p;"
            + "fits price - others * 2;");
        x.buy(0);
        x.quarter();
        x.quarter();
        c.is("a fits 5 besides b", x.count(3), 4);
        x.quarter();
        // a fits 3 besides b and d; b fits 5 then, a being gone
        c.is("a is brought, b is not", x.count(3), 1);
        c.is("what they hold", x.person(0, 3), 6);
    }

    private static void meek(Checks c) {
        SoulRaffle x = c.open("person m meek coins 9; person o proud coins 0; good a worth 0 of o; good b worth 0 of m;"
            + "good d worth 9 of o;");
        x.buy(0);
        c.is("wins a", x.quarter(), 0);
        c.is("holds a", x.person(0, 3), 1);
        c.is("wins b", x.quarter(), 0);
        c.row("who holds", g -> x.good(g, 2), 1, 0, -1);
        c.is("wins d", x.quarter(), 0);
        // the proud one brings a, for it fits 0
        c.row("who holds", g -> x.good(g, 2), -1, 0, 0);
        c.is("wins a again", x.quarter(), 0);
        c.row("who holds", g -> x.good(g, 2), 0, 0, 1);
    }

    private static void mate(Checks c) {
        SoulRaffle x = c.open("person m mate coins 9; person o plain coins 0; good a worth 30 of o; good b worth 0 of m;");
        x.buy(0);
        c.is("wins a", x.quarter(), 0);
        c.is("wins b", x.quarter(), 0);
        c.row("who holds", g -> x.good(g, 2), -1, 0);
        for (int i = 0; i < 3; i++) {
            c.is("wins a", x.quarter(), 0);
            c.row("who holds", g -> x.good(g, 2), 0, 0);
            c.is("nobody wins", x.quarter(), -1);
            c.row("who holds", g -> x.good(g, 2), -1, 0);
        }
    }

    private static void shillings(Checks c) {
        SoulRaffle x = c.open("person a plain coins 48; person b proud coins 50; person d meek coins 0; person e mate coins 49;");
        x.quarter();
        c.row("shillings", p -> x.person(p, 1), 49, 50, 1, 50);
        x.quarter();
        x.quarter();
        c.row("shillings", p -> x.person(p, 1), 50, 50, 3, 50);
    }

    private static void undoes(Checks c) {
        SoulRaffle x = bothHold(c, "likes a h 1; likes b g 1;");
        x.swap(0, 1);
        x.bring(1);
        c.is("what can be undone", x.count(9), 6);
        c.is("undo bring", x.undo(), true);
        c.row("who holds", g -> x.good(g, 2), 1, 0, -1);
        c.is("undo swap", x.undo(), true);
        c.row("who holds", g -> x.good(g, 2), 0, 1, -1);
        c.is("undo quarter", x.undo(), true);
        c.is("the quarter", x.count(2), 1);
        c.is("the DRAW is the same", x.quarter(), 1);
        c.is("undo quarter", x.undo(), true);
        c.is("undo buy", x.undo(), true);
        c.is("tickets", x.person(1, 2), 0);
        c.is("shillings", x.person(1, 1), 10);
        c.is("undo quarter", x.undo(), true);
        c.is("undo buy", x.undo(), true);
        c.is("nothing is left", x.undo(), false);
        c.row("count", x::count, 2, 3, 0, 7, 0, 18, 0, 0, 0, 0, 0);
        x.buy(5);
        x.bring(0);
        x.swap(0, 1);
        c.is("what can't be is not undone", x.undo(), false);
    }

    private static void undoesSixteen(Checks c) {
        SoulRaffle x = c.open("person a plain coins 50;");
        for (int i = 0; i < 8; i++) {
            x.buy(0);
        }
        for (int i = 1; i <= 20; i++) {
            x.quarter();
            c.is("what can be undone", x.count(9), Math.min(16, 8 + i));
        }
        for (int i = 1; i <= 16; i++) {
            c.is("undo()", x.undo(), true);
            c.is("the quarter", x.count(2), 20 - i);
        }
        c.is("a seventeenth", x.undo(), false);
        c.is("the quarter", x.count(2), 4);
        x.quarter();
        c.is("one more", x.count(9), 1);
        c.is("undo()", x.undo(), true);
        c.is("and no more", x.undo(), false);
    }
}
