/** Promises 22 to 31: what a thing is to whom, who envies whom, which swaps there are, and RINGS. */
public final class FitsTest {
    public static void main(String[] args) {
        Checks c = new Checks();
        atFirst(c);
        held(c);
        byOthers(c);
        envies(c);
        offers(c);
        ringOfThree(c);
        ringsInRounds(c);
        ringsOfSix(c);
        ringsOfEqualOnes(c);
        ringsByWhatIsKept(c);
        wrongNumbers(c);
        c.end("FitsTest");
    }

    /** Each has one ticket and holds one: a g, b h, d k. */
    private static SoulRaffle three(Checks c, String rest) {
        // DRAWS below 1, 2 and 3: 0 1 2
        SoulRaffle x = c.open("person a plain coins 9; person b plain coins 9; person d plain coins 9; " + rest
            + "seed " + SEED + ";");
        x.buy(0);
        c.is("a wins", x.quarter(), 0);
        x.buy(1);
        c.is("b wins", x.quarter(), 1);
        x.buy(2);
        c.is("d wins", x.quarter(), 2);
        return x;
    }

    private static final int SEED = 19;

    private static void atFirst(Checks c) {
        SoulRaffle x = c.open("person a plain coins 9; person b plain coins 9; good g worth 3 of a; good h worth 1 of b;"
            + "good k worth 3 of b; likes a h 2; likes b k 1;");
        c.row("want", x::want, 0, 2, -1);
        c.row("fans", x::fans, 1, 1, 3, -1);
        c.is("dull", x.dull(), 0);
        c.is("least", x.least(), 1);
        c.is("rights", x.rights(), 0);
        c.row("joy", x::joy, 0, 0, -1);
        c.row("envy", x::envy, 0, 0, -1);
        c.row("offers", x::offers, 0, -1, -1);
        c.row("gets", x::gets, -1, -1, -1);
        c.is("rounds", x.rounds(), 0);
        SoulRaffle y = c.open("person a plain coins 9; good g worth 3 of a; good h worth 1 of a; good k worth 1 of a;");
        c.is("dull", y.dull(), 6);
        c.is("the first of the least", y.least(), 1);
        SoulRaffle z = c.open("person a plain coins 9;");
        c.is("least of none", z.least(), -1);
        c.is("want of none", z.want(0), -1);
        c.is("dull", z.dull(), 0);
        c.is("joy", z.joy(0), 0);
    }

    private static void held(Checks c) {
        SoulRaffle x = three(c, "good g worth 3 of a; good h worth 1 of a; good k worth 5 of d; likes b h 4; likes a k 7;");
        c.row("who holds", good -> x.good(good, 2), 0, 1, 2);
        c.is("rights", x.rights(), 5);
        c.row("joy", x::joy, 3, 5, 5, -1);
        c.is("joy of all", x.count(6), 13);
        c.row("want, held by whomever", x::want, 2, 1, 2, -1);
        c.row("fans", x::fans, 0, 2, 7, -1);
        c.is("dull", x.dull(), 1);
        c.is("least", x.least(), 1);
        c.row("envy", x::envy, 4, 0, 0, -1);
    }

    private static void byOthers(Checks c) {
        SoulRaffle x = three(c, "good g worth 9 of a; good h worth 9 of a; good k worth 9 of d; good l worth 9 of a;"
            + "fits price - others * 2 - mine * others;");
        // a: g and, in time, whatever comes
        x.bring(1);
        x.bring(2);
        c.is("joy of one", x.joy(0), 9);
        c.row("fit to a", good -> x.fit(0, good), 9, 6, 7, 6, -1);
        c.is("want, the one they hold", x.want(0), 0);
        c.row("fans", x::fans, 7, 6, 6, 6, -1);
        c.is("least", x.least(), 1);
        c.row("want of those without", p -> x.want(p + 1), 0, 0, -1);
        // a holds three: g and k fit 9 - 2 and 5, what they hold not 6; b's one is not moved by them
        SoulRaffle y = two(c, "good g worth 9 of a; good h worth 8 of a; good k worth 7 of a; good l worth 10 of b;"
            + "fits price - others * 2;");
        c.row("fit to a", good -> y.fit(0, good), 5, 4, 3, 4, -1);
        c.row("want", y::want, 0, 3, -1);
        c.row("fans", y::fans, 1, 0, 0, 2, -1);
        c.is("dull", y.dull(), 6);
        c.is("least", y.least(), 2);
        SoulRaffle z = two(c, "good g worth 1 of a; good h worth 8 of a; good k worth 7 of a; good l worth 9 of b;");
        c.is("least, the first GOOD", z.least(), 0);
        SoulRaffle v = two(c, "good g worth 0 of a; good h worth 0 of a; good k worth 0 of a; good l worth 0 of b;");
        c.is("least of all alike", v.least(), 0);
        c.row("want of all alike", v::want, 0, 0, -1);
        c.row("fans of all alike", v::fans, 3, 3, 3, 3, -1);
    }

    private static void envies(Checks c) {
        SoulRaffle x = three(c, "good g worth 4 of a; good h worth 6 of a; good k worth 4 of d; fits price + others * 3;");
        c.row("envy", x::envy, 2, 0, 2, -1);
        String goods = "good g worth 3 of a; good h worth 5 of a; good k worth 5 of a; good l worth 2 of b;"
            + "fits price * (others < 1) + 1 + like; likes a h 1;";
        // a: g, h and k, 1 + 2 + 1, and to b 1 + 1 + 1, for each has two others; b: l, 2 + 1
        SoulRaffle y = two(c, goods);
        c.row("joy", y::joy, 4, 3, -1);
        c.row("envy", y::envy, 0, 0, -1);
        SoulRaffle z = two(c, goods + "likes b g 1;");
        c.row("joy", z::joy, 4, 3, -1);
        c.row("envy", z::envy, 0, 1, -1);
    }

    /** a wins the first three, b the fourth. */
    private static SoulRaffle two(Checks c, String rest) {
        // DRAWS below 1, 1, 1 and 2: 0 0 0 1
        SoulRaffle x = c.open("person a plain coins 9; person b plain coins 9;" + rest + "seed " + FOURTH_SEED + ";");
        x.buy(0);
        x.quarter();
        x.quarter();
        x.quarter();
        x.buy(1);
        c.is("b wins", x.quarter(), 1);
        c.row("who holds", good -> x.good(good, 2), 0, 0, 0, 1);
        return x;
    }

    private static final int FOURTH_SEED = 1;

    private static void offers(Checks c) {
        SoulRaffle x = two(c, "good g worth 0 of a; good h worth 5 of a; good k worth 1 of a; good l worth 2 of b;"
            + "likes b g 9; likes b k 9; likes b h 1; likes b l 1;");
        // a gains by l for g and for k; b by g and k, and h would do for b alone
        c.row("offers", x::offers, 2, 3, -1);
        c.is("offers(-1)", x.offers(-1), -1);
        c.is("offers(2)", x.offers(2), -1);
        x.bring(0);
        c.row("offers without g", x::offers, 1, 8 * 2 + 3, -1);
        c.is("nothing is swapped by asking", x.good(2, 2), 0);
        x.swap(2, 3);
        c.row("offers behind it", x::offers, 0, -1);
    }

    private static void ringOfThree(Checks c) {
        SoulRaffle x = three(c, "good g worth 1 of a; good h worth 1 of a; good k worth 1 of a; likes a h 5; likes b k 5;"
            + "likes d g 5;");
        c.row("gets", x::gets, 1, 2, 0, -1);
        c.is("rounds", x.rounds(), 1);
        SoulRaffle y = three(c, "good g worth 1 of a; good h worth 1 of a; good k worth 1 of a;");
        c.row("gets, of equal ones the first", y::gets, 0, 1, 2, -1);
        c.is("rounds", y.rounds(), 3);
        c.row("nothing is moved", good -> y.good(good, 2), 0, 1, 2);
        SoulRaffle z = three(c, "good g worth 1 of a; good h worth 1 of a; good k worth 1 of a; likes a g 1; likes b h 1;"
            + "likes d k 1;");
        c.row("gets, each their own", z::gets, 0, 1, 2, -1);
        c.is("rounds", z.rounds(), 1);
    }

    private static void ringsInRounds(Checks c) {
        // a and b would have d's, who keeps it; then they trade
        SoulRaffle x = three(c, "good g worth 1 of a; good h worth 1 of a; good k worth 9 of a; likes a h 1; likes b g 1;");
        c.row("gets", x::gets, 1, 0, 2, -1);
        c.is("rounds", x.rounds(), 2);
        SoulRaffle rounds = three(c, "good g worth 1 of a; good h worth 1 of a; good k worth 9 of a;");
        c.is("rounds, asked first", rounds.rounds(), 3);
        // a ring of two with one who points in and is left with their own
        SoulRaffle y = three(c, "good g worth 1 of a; good h worth 1 of a; good k worth 1 of a; likes a h 5; likes b g 5;"
            + "likes d g 5;");
        c.row("gets", y::gets, 1, 0, 2, -1);
        c.is("rounds", y.rounds(), 2);
        x.bring(1);
        c.row("gets without b", x::gets, 0, -1, 2, -1);
        c.is("rounds", x.rounds(), 2);
    }

    /** Six PERSONS who hold one GOOD each. */
    private static SoulRaffle six(Checks c, String rest) {
        StringBuilder text = new StringBuilder();
        for (char name = 'a'; name < 'g'; name++) {
            text.append("person ").append(name).append(" plain coins 9;");
        }
        for (char name = 'm'; name < 's'; name++) {
            text.append("good ").append(name).append(" worth 1 of a;");
        }
        // DRAWS by this seed below 1, 2 .. 6: 0, 1 .. 5
        SoulRaffle x = c.open(text + rest + "seed 251;");
        for (int person = 0; person < 6; person++) {
            x.buy(person);
            c.is("quarter()", x.quarter(), person);
        }
        return x;
    }

    private static void ringsOfSix(Checks c) {
        SoulRaffle x = six(c, "likes a n 1;likes b o 1;likes c p 1;likes d q 1;likes e r 1;likes f m 1;");
        c.row("gets, in one ring", x::gets, 1, 2, 3, 4, 5, 0, -1);
        c.is("rounds", x.rounds(), 1);
        SoulRaffle y = six(c, "");
        c.row("gets, one by one", y::gets, 0, 1, 2, 3, 4, 5, -1);
        c.is("rounds", y.rounds(), 6);
        SoulRaffle z = six(c, "likes a n 1;likes b m 1;likes c p 1;likes d o 1;likes e r 1;likes f q 1;");
        c.row("gets, in three rings", z::gets, 1, 0, 3, 2, 5, 4, -1);
        c.is("rounds", z.rounds(), 1);
    }

    /** Of equal ones the first GOOD, not the first PERSON: d would have h or g, and a has h. */
    private static void ringsOfEqualOnes(Checks c) {
        // DRAWS by this seed below 1, 2 and 3: 0 0 2
        SoulRaffle x = c.open("person b plain coins 9; person a plain coins 9; person d plain coins 9; good h worth 1 of a;"
            + "good g worth 1 of a; good k worth 1 of a; likes d h 5; likes d g 5; likes b k 9; likes a k 9; seed 7;");
        x.buy(1);
        x.quarter();
        x.buy(0);
        x.quarter();
        x.buy(2);
        x.quarter();
        c.row("who holds", good -> x.good(good, 2), 1, 0, 2);
        c.row("gets", x::gets, 1, 2, 0, -1);
        c.is("rounds", x.rounds(), 2);
    }

    private static void ringsByWhatIsKept(Checks c) {
        // a puts in g and keeps h and k: by two others they would have l, by none they would keep g
        SoulRaffle x = two(c, "good g worth 5 of a; good h worth 9 of a; good k worth 9 of a; good l worth 1 of b;"
            + "likes a l 2; likes b g 7; fits price * (others < 2) + like;");
        c.row("gets", x::gets, 3, 0, -1);
        c.is("rounds", x.rounds(), 1);
        x.bring(2);
        // now a keeps h alone
        c.row("gets", x::gets, 0, 3, -1);
        c.is("rounds", x.rounds(), 2);
    }

    private static void wrongNumbers(Checks c) {
        SoulRaffle x = c.open("person a plain coins 9; person b plain coins 9; good g worth 3 of a;");
        c.wrong("joy", x::joy, 2, -1);
        c.wrong("envy", x::envy, 2, -1);
        c.wrong("offers", x::offers, 2, -1);
        c.wrong("want", x::want, 2, -1);
        c.wrong("fans", x::fans, 1, -1);
        c.wrong("gets", x::gets, 2, -1);
    }
}
