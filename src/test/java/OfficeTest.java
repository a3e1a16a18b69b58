/** Promise 3: an OFFICE, and its FAULTS; in those texts ^ stands ahead of the token that is wrong. */
public final class OfficeTest {
    private static final String P = "person a plain coins 1; ";
    private static final String PG = P + "good g worth 1 of a; ";

    public static void main(String[] args) {
        Checks c = new Checks();
        tellsAll(c);
        tokens(c);
        cantStand(c);
        notTold(c);
        toldAlready(c);
        wrongNumbers(c);
        tooMany(c);
        leastOfKinds(c);
        beginsAnew(c);
        nothingIsLeftOver(c);
        seedIsNought(c);
        staysWithAFault(c);
        c.end("OfficeTest");
    }

    private static void tellsAll(Checks c) {
        SoulRaffle x = c.open("seed 9999;person price plain coins 0;person like proud coins 50;\nperson c meek coins 7;"
            + "person d mate coins 0009;good abcdefgh worth 30 of d;good mine worth 0 of price;likes like mine 20;"
            + "likes price mine 1;");
        c.is("persons", x.count(0), 4);
        c.is("goods", x.count(1), 2);
        c.row("kind", p -> x.person(p, 0), 0, 1, 2, 3, -1);
        c.row("coins", p -> x.person(p, 1), 0, 50, 7, 9, -1);
        c.row("worth", g -> x.good(g, 0), 30, 0, -2);
        c.row("owner", g -> x.good(g, 1), 3, 0, -2);
        c.row("fit of mine", p -> x.fit(p, 1), 1, 20, 0, 0, -1);
        c.row("fit of abcdefgh", p -> x.fit(p, 0), 30, 30, 30, 30, -1);
        c.is("others may be a NAME", c.open("person others plain coins 1;").count(0), 1);
        c.is("a blank text", Checks.office(x, " \n "), 0);
        c.is("persons then", x.count(0), 0);
    }

    private static void tokens(Checks c) {
        c.open("person a plain coins 1;good g worth 3of a;seed0;fits1;");
        c.open("person\n\na\nplain   coins 50;fits(1+2)*3<4and not 5or price=like;");
        c.officeFault(1, "person ^abcdefghi plain coins 1;");
        c.officeFault(1, "person a plain coins ^00001;");
        c.officeFault(1, "fits ^12345;");
        c.officeFault(1, "^.seed 1;");
        c.officeFault(1, "^Person a plain coins 1;");
        c.officeFault(1, "person ^A plain coins 1;");
        c.officeFault(1, "seed ^-1;");
        c.officeFault(1, "seed 1^, seed 2;");
        c.officeFault(1, "person a^1 plain coins 1;");
        c.officeFault(1, "seed 1;^~");
        c.officeFault(1, "^personaaa b");
    }

    private static void cantStand(Checks c) {
        c.officeFault(1, "^office");
        c.officeFault(1, "^; seed 1;");
        c.officeFault(1, "^a");
        c.officeFault(1, "^1");
        c.officeFault(1, "^coins");
        c.officeFault(1, "^quarter ;");
        c.officeFault(1, "person^");
        c.officeFault(1, "person ^person plain");
        for (String word : ("coins good worth of likes seed fits quarter buy swap bring plain proud meek mate not and or")
            .split(" ")) {
            c.officeFault(1, "person ^" + word + " plain coins 1;");
            c.officeFault(1, P + "good ^" + word + " worth 1 of a;");
            c.officeFault(1, P + "good g worth 1 of ^" + word + " ;");
            c.officeFault(1, PG + "likes ^" + word + " g 1;");
            c.officeFault(1, PG + "likes a ^" + word + " 1;");
        }
        c.officeFault(1, "person ^1 plain coins 1;");
        c.officeFault(1, "person a ^rich coins 1;");
        c.officeFault(1, "person a ^coins 1;");
        c.officeFault(1, "person a plain ^1;");
        c.officeFault(1, "person a plain coins ^;");
        c.officeFault(1, "person a plain coins ^a;");
        c.officeFault(1, "person a plain coins 1 ^person b");
        c.officeFault(1, "person a plain ^seed 1;");
        c.officeFault(1, "person a plain coins ^seed 1;");
        c.officeFault(1, P + "good g ^seed 1;");
        c.officeFault(1, P + "good g worth 1 ^seed 1;");
        c.officeFault(1, PG + "likes a g ^seed 1;");
        c.officeFault(1, PG + "likes a g 1; likes a ^1");
        c.officeFault(1, PG + "likes a g 1; likes a ^;");
        c.officeFault(1, "person a plain coins 1 ^1;");
        c.officeFault(1, "person a plain coins 1 ^");
        c.officeFault(1, P + "good g ^1");
        c.officeFault(1, P + "good g worth ^of a;");
        c.officeFault(1, P + "good g worth 1 ^a;");
        c.officeFault(1, P + "good g worth 1 of ^1;");
        c.officeFault(1, P + "good g worth 1 of a ^of");
        c.officeFault(1, PG + "likes ^1");
        c.officeFault(1, PG + "likes a ^1");
        c.officeFault(1, PG + "likes a g ^a;");
        c.officeFault(1, PG + "likes a g 1 ^2;");
        c.officeFault(1, "seed ^;");
        c.officeFault(1, "seed 1 ^1;");
        c.officeFault(1, "fits ^;");
        c.officeFault(1, "fits ^coins;");
        c.officeFault(1, "fits 1 ^1;");
        c.officeFault(1, "fits 1 ^like;");
        c.officeFault(1, "fits 1 ^(2);");
        c.officeFault(1, "fits 1 ^not 2;");
        c.officeFault(1, "fits 1 + ^+ 2;");
        c.officeFault(1, "fits ^- 1;");
        c.officeFault(1, "fits not ^;");
        c.officeFault(1, "fits not ^and 1;");
        c.officeFault(1, "fits (^);");
        c.officeFault(1, "fits (1^;");
        c.officeFault(1, "fits (1 + 2 ^] * 3;");
        c.officeFault(1, "fits 1^);");
        c.officeFault(1, "fits 1 < 2 ^< 3;");
        c.officeFault(1, "fits 1 < 2 ^= 3;");
        c.officeFault(1, "fits 1 = 2 ^< 3;");
        c.officeFault(1, "fits 1 and ^or 2;");
        c.officeFault(1, "fits 1 and 2 ^");
        c.officeFault(1, "fits^");
        c.officeFault(1, "fits 1 *   ^");
        c.open("fits 1 < 2 and 2 < 3 or 3 = (4 < 5);");
    }

    private static void notTold(Checks c) {
        c.officeFault(2, "good g worth 1 of ^a;");
        c.officeFault(2, P + "good g worth 1 of ^g;");
        c.officeFault(2, PG + "good h worth 1 of ^g;");
        c.officeFault(2, PG + "likes ^g g 1;");
        c.officeFault(2, PG + "likes ^b g 1;");
        c.officeFault(2, PG + "likes a ^a 1;");
        c.officeFault(2, PG + "likes a ^h 1;");
        c.officeFault(2, PG + "likes a ^price 1;");
    }

    private static void toldAlready(Checks c) {
        c.officeFault(3, P + "person ^a plain coins 1;");
        c.officeFault(3, PG + "person ^g plain coins 1;");
        c.officeFault(3, PG + "good ^g worth 1 of a;");
        c.officeFault(3, PG + "good ^a worth 1 of a;");
        c.officeFault(3, PG + "likes a g 1; likes a ^g 1;");
        c.officeFault(3, PG + "likes a g 1; likes a ^g");
        c.officeFault(3, "seed 0; ^seed 1;");
        c.officeFault(3, "fits 1; ^fits 1;");
        c.officeFault(3, "fits 1; seed 1; ^fits");
        c.open(PG + "person b meek coins 2; likes b g 1; likes a g 2; good h worth 2 of b; likes a h 3; likes b h 4;");
    }

    private static void wrongNumbers(Checks c) {
        c.officeFault(4, "person a plain coins ^51;");
        c.officeFault(4, "person a plain coins ^9999");
        c.officeFault(4, P + "good g worth ^31 of a;");
        c.officeFault(4, PG + "likes a g ^0;");
        c.officeFault(4, PG + "likes a g ^21;");
        c.open("seed 0; fits 9999;");
    }

    private static void tooMany(Checks c) {
        StringBuilder six = new StringBuilder();
        for (char name = 'a'; name < 'g'; name++) {
            six.append("person ").append(name).append(" plain coins 1;");
        }
        StringBuilder eight = new StringBuilder(six);
        for (char name = 'm'; name < 'u'; name++) {
            eight.append("good ").append(name).append(" worth 1 of f;");
        }
        c.is("six and eight", c.open(eight.toString()).count(1), 8);
        c.officeFault(5, six + "^person");
        c.officeFault(5, six + "^person a");
        c.officeFault(5, eight + "^good z worth 1 of a;");
        c.officeFault(1, eight + "^goods");
        c.open("fits not not not not 1;");
        c.officeFault(5, "fits not not not not not ^1;");
        c.officeFault(5, "fits not not not not not ^not 1;");
        c.officeFault(5, "fits not not not not not ^like;");
        c.open("fits ((((1))));");
        c.officeFault(5, "fits (((((^1)))));");
        c.officeFault(5, "fits (((((^(1))))));");
        c.open("fits not (not (1)) + ((((2)))) * not not not not 3;");
        c.officeFault(5, "fits not (not (not ^1));");
        c.officeFault(5, "fits (1 + (2 * (3 - (4 < (^5)))));");
        c.open("fits (1 + (2 * (3 - (4 < 5))));");
    }

    private static void leastOfKinds(Checks c) {
        c.officeFault(1, "fits (((((^)))));");
        c.officeFault(1, "fits not not not not not ^coins;");
        c.officeFault(1, "fits not not not not not ^");
        c.officeFault(1, "fits (((((^12345");
        c.officeFault(1, "fits (((((^+");
    }

    private static void beginsAnew(Checks c) {
        SoulRaffle x = c.open("person a plain coins 5; good g worth 1 of a; seed 3;");
        c.is("year()", Checks.year(x, "buy a; quarter;"), 0);
        x.buy(0);
        x.quarter();
        x.see(0, 1, true);
        for (int mark = 0; mark < 4; mark++) {
            x.mark(mark, false);
        }
        c.is("held", x.good(0, 2), 0);
        c.is("office()", Checks.office(x, "person b mate coins 4; good h worth 2 of b;"), 0);
        c.row("count", x::count, 1, 1, 0, 1, 0, 4, 0, 0, 0, 0, 0);
        c.is("holder", x.good(0, 2), -1);
        c.is("undo()", x.undo(), false);
        for (int mark = 0; mark < 4; mark++) {
            c.is("mark(" + mark + ", true)", x.mark(mark, true), false);
        }
        c.row("judged", x::judged, -1, -1, 0);
        c.is("best", x.best(-1), 2);
    }

    /** What the office before the last told is not left over. */
    private static void nothingIsLeftOver(Checks c) {
        SoulRaffle x = c.open("person a plain coins 9; good g worth 1 of a; likes a g 20; seed 9; fits 50;");
        c.is("another", Checks.office(x, PG + "fits like;"), 0);
        c.is("no like", x.fit(0, 0), 0);
        c.is("a third", Checks.office(x, PG), 0);
        c.is("no like, no law", x.fit(0, 0), 1);
        c.is("no seed", Checks.office(x, "seed 3; fits 1;"), 0);
        c.is("with a fault", Checks.office(x, "person a plain coins 51"), 4 + 16 * 21);
        c.is("the signs behind are gone", Checks.office(x, "person a plain coins 5"), 1 + 16 * 22);
        c.is("letters, too", Checks.office(x, "person abcd"), 1 + 16 * 11);
        c.is("the signs behind are gone", Checks.office(x, "person a"), 1 + 16 * 8);
        StringBuilder most = new StringBuilder();
        for (char name = 'a'; name < 'g'; name++) {
            most.append("person ").append(name).append(" plain coins 1;");
        }
        most.append("good m worth 9 of a;good n worth 9 of a;");
        c.is("six", Checks.office(x, most.toString()), 0);
        c.is("best", x.best(-1), 18);
        c.is("six again", Checks.office(x, most.toString()), 0);
        c.is("best", x.best(-1), 18);
        c.is("one", Checks.office(x, PG + "good h worth 9 of a;"), 0);
        c.is("best", x.best(-1), 9);
        c.is("owes", x.owes(0), 0);
        c.is("shillings", x.count(5), 1);
    }

    /** DRAWS without a seed are by 0: below 2 0 0 0 1, by 1 0 0 1 1. */
    private static void seedIsNought(Checks c) {
        SoulRaffle x = c.open("person a plain coins 1; person b plain coins 1; good g worth 1 of a; good h worth 1 of a;"
            + "good k worth 1 of a; good l worth 1 of a;");
        x.buy(0);
        x.buy(1);
        c.row("winner", x::winner, -1, 0, 0, 0, 1);
    }

    private static void staysWithAFault(Checks c) {
        SoulRaffle x = c.open("person a plain coins 5; good g worth 3 of a; seed 3;");
        c.is("year()", Checks.year(x, "buy a; quarter;"), 0);
        x.buy(0);
        x.quarter();
        x.see(0, 1, true);
        x.mark(2, false);
        c.is("best", x.best(-1), 3);
        String text = "person b mate coins 4; person c mate coins 4; good h worth 20 of b; fits 9; ";
        c.is("office()", Checks.office(x, text + "x"), 1 + 16 * text.length());
        c.row("count", x::count, 1, 1, 1, 0, 1, 5, 3, 2, 1, 2, 0);
        c.is("fit", x.fit(0, 0), 3);
        c.is("best", x.best(-1), 3);
        c.is("year()", Checks.year(x, "buy b;"), 2 + 16 * 4);
        c.is("lines", x.count(7), 2);
        c.is("mark(2, true)", x.mark(2, true), true);
    }
}
