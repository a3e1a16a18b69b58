/** Promises 38 to 40: SEEN, WHO, ASK. */
public final class SeenTest {
    public static void main(String[] args) {
        Checks c = new Checks();
        sees(c);
        eight(c);
        holdingNothing(c);
        asks(c);
        asksTheFirst(c);
        c.end("SeenTest");
    }

    /** g fits 5, 8, 15, 5; h fits 9 and 10 to the last. */
    private static SoulRaffle four(Checks c) {
        return c.open("person a plain coins 9; person b plain coins 9; person d plain coins 9; person e plain coins 9;"
            + "good g worth 5 of a; good h worth 9 of a; likes b g 3; likes d g 10; likes e h 1;");
    }

    private static void sees(Checks c) {
        SoulRaffle x = four(c);
        c.is("all", x.who(), 15);
        c.is("see", x.see(0, 8, true), true);
        c.is("8 or more", x.who(), 6);
        c.is("see", x.see(0, 15, false), true);
        c.is("less than 15", x.who(), 2);
        c.is("see", x.see(1, 10, true), true);
        c.is("none", x.who(), 0);
        c.is("ask of none", x.ask(), -1);
        c.is("count(8)", x.count(8), 3);
        SoulRaffle y = four(c);
        y.see(0, 8, false);
        c.is("less than 8", y.who(), 9);
        y.see(1, 9, true);
        c.is("9 or more", y.who(), 9);
        y.see(1, 10, false);
        c.is("less than 10", y.who(), 1);
        SoulRaffle z = four(c);
        z.see(0, 0, true);
        c.is("0 or more", z.who(), 15);
        z.see(0, 99, false);
        c.is("less than 99", z.who(), 15);
        z.see(0, 0, false);
        c.is("less than 0", z.who(), 0);
        c.wrong("see(_, 1, true)", g -> z.see(g, 1, true) ? 1 : 0, 2, 0);
        c.wrong("see(0, _, true)", n -> z.see(0, n, true) ? 1 : 0, 100, 0);
        c.is("wrong ones are not SEEN", z.count(8), 3);
        c.is("nobody is told", c.open("").who(), 0);
    }

    private static void eight(Checks c) {
        SoulRaffle x = four(c);
        for (int i = 0; i < 8; i++) {
            c.is("see", x.see(0, 5, true), true);
        }
        c.is("a ninth", x.see(0, 8, true), false);
        c.is("count(8)", x.count(8), 8);
        c.is("who", x.who(), 15);
        c.is("undo", x.undo(), false);
    }

    private static void holdingNothing(Checks c) {
        SoulRaffle x = c.open("person a plain coins 9; person b plain coins 9; good g worth 5 of a; good h worth 9 of b;"
            + "fits price - others * 5 + mine;");
        x.buy(0);
        x.quarter();
        x.quarter();
        c.is("fit", x.fit(0, 0), 1);
        x.see(0, 6, true);
        c.is("who", x.who(), 1);
        SoulRaffle y = c.open("person a plain coins 9; person b plain coins 9; good g worth 5 of a; good h worth 9 of b;"
            + "fits others;");
        y.buy(0);
        y.quarter();
        y.quarter();
        c.is("all fit alike", y.ask(), -1);
    }

    private static void asks(Checks c) {
        SoulRaffle x = four(c);
        c.is("g, 6: two and two", x.ask(), 6);
        x.see(0, 6, false);
        c.is("h, 10: one and one", x.ask(), 110);
        x.see(1, 10, true);
        c.is("one is left", x.ask(), -1);
        SoulRaffle y = four(c);
        y.see(0, 6, true);
        c.is("g, 9: one and one", y.ask(), 9);
        c.is("no PERSONS", c.open("").ask(), -1);
        c.is("no GOODS", c.open("person a plain coins 1; person b plain coins 2;").ask(), -1);
        c.is("one PERSON", c.open("person a plain coins 1; good g worth 5 of a;").ask(), -1);
    }

    private static void asksTheFirst(Checks c) {
        // one and two by g, and by h: the first
        c.is("the first GOOD", c.open("person a plain coins 1; person b plain coins 1; person d plain coins 1;"
            + "good g worth 1 of a; good h worth 1 of a; likes d g 1; likes a h 1;").ask(), 2);
        // three and one by 3 and by 9; two and two by 4 to 8
        c.is("the least number", c.open("person a plain coins 1; person b plain coins 1; person d plain coins 1;"
            + "person e plain coins 1; good g worth 0 of a; likes a g 2; likes b g 3; likes d g 8; likes e g 20;").ask(), 4);
        c.is("the second GOOD parts better", c.open("person a plain coins 1; person b plain coins 1; person d plain coins 1;"
            + "person e plain coins 1; good g worth 1 of a; good h worth 1 of a; likes d g 1; likes a h 4; likes b h 6;").ask(),
            102);
        c.is("99", c.open("person a plain coins 1; person b plain coins 1; good g worth 1 of a; likes a g 1;"
            + "fits 96 + like * 2 + price;").ask(), 98);
        c.is("1 itself", c.open("person a plain coins 1; person b plain coins 1; good g worth 0 of a; fits mine;").ask(), 1);
        c.is("99 itself", c.open("person a plain coins 1; person b plain coins 1; good g worth 1 of a;"
            + "fits 98 + mine;").ask(), 99);
    }
}
