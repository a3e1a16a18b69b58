/** The edges of promises 22 to 31: LEAST to ROUNDS. */
public final class EdgesOfFitsTest {
    private final Checks c = new Checks();

    public static void main(String[] args) {
        EdgesOfFitsTest t = new EdgesOfFitsTest();
        t.leastOfNothing();
        t.leastOfEqualOnes();
        t.rights();
        t.joy();
        t.joyOfOthers();
        t.envyMore();
        t.envyByOneLess();
        t.envyOfThoseWithout();
        t.envyOfOthers();
        t.offersNone();
        t.offersFirstPair();
        t.offersOfOthers();
        t.wantOfEqualOnes();
        t.wantHeldByWhomever();
        t.wantOfOthers();
        t.fansOfEqualOnes();
        t.fansOfOthers();
        t.dull();
        t.ringsPutInTheFirst();
        t.ringsOfEqualOnes();
        t.ringsOfTheFirstGood();
        t.ringsByWhatTheyKeep();
        t.ringsOut();
        t.getsOfOthers();
        t.roundsFromNoughtToSix();
        t.c.edgesOf(22, 31);
        t.c.end("EdgesOfFitsTest");
    }

    private static String two() {
        return Checks.persons(2, "plain", 9);
    }

    // ---- LEAST, RIGHTS, JOY ----

    private void leastOfNothing() {
        c.edge(22, "LEAST; NONE: no GOODS, nobody.");
        c.is("nothing", new SoulRaffle().least(), -1);
        c.is("nobody", c.open("seed 1;").least(), -1);
        c.is("no GOODS", c.open(two()).least(), -1);
        c.is("one GOOD", c.open(two() + Checks.goods(1, 30, "a")).least(), 0);
        c.is("one that FITS nobody", c.open(two() + Checks.goods(1, 0, "a")).least(), 0);
    }

    private void leastOfEqualOnes() {
        c.edge(22, "LEAST: the GOOD that FITS all PERSONS the least, together; of equal ones the first.");
        c.is("all alike", c.open(two() + Checks.goods(8, 3, "a")).least(), 0);
        c.is("one more in all", c.open(two() + Checks.goods(8, 3, "a") + "likes b m 1;").least(), 1);
        c.is("the last alone", c.open(two() + Checks.goods(7, 3, "a") + "good t worth 2 of a;").least(), 7);
        c.is("together alike", c.open(two() + Checks.goods(3, 0, "a") + "likes a m 3; likes b n 2; likes a n 1; likes a o 4;").least(), 0);
        c.is("together less", c.open(two() + Checks.goods(3, 0, "a") + "likes a m 3; likes b n 2; likes a o 4;").least(), 1);
        SoulRaffle x = c.held(2, two() + Checks.goods(3, 5, "a") + "fits price - others;", 0, 0);
        // m and n have one other besides them with a, o has two
        c.is("by others", x.least(), 2);
    }

    private void rights() {
        c.edge(23, "RIGHTS: GOODS HELD by those whose they are (bits).");
        SoulRaffle x = c.open(Checks.persons(1, "plain", 9) + Checks.goods(8, 1, "a"));
        x.buy(0);
        for (int i = 0; i <= 8; i++) {
            c.is("so many are", x.rights(), (1 << i) - 1);
            x.quarter();
        }
        x.bring(3);
        c.is("all but one in the OFFICE", x.rights(), 255 - 8);
        SoulRaffle y = c.held(2, two() + "good m worth 1 of a; good n worth 1 of b; good o worth 1 of b; good p worth 1 of a;",
            0, 1, 0, 1);
        c.is("two of four with others", y.rights(), 3);
        c.is("in the OFFICE all", c.open(two() + Checks.goods(8, 1, "a")).rights(), 0);
    }

    private void joy() {
        c.edge(24, "JOY of a PERSON: how all they HOLD FITS them, together.");
        SoulRaffle x = c.open(Checks.persons(1, "plain", 9) + Checks.goods(8, 1, "a") + "fits 100;");
        x.buy(0);
        for (int i = 0; i <= 8; i++) {
            c.is("so many by 99", x.joy(0), 99 * i);
            c.is("of all", x.count(6), 99 * i);
            x.quarter();
        }
        int[] all = {0, 0, 0, 0, 0, 0, 0, 0};
        SoulRaffle y = c.held(1, Checks.persons(1, "plain", 9) + Checks.goods(8, 1, "a") + "fits others;", all);
        c.is("eight with seven others each", y.joy(0), 56);
        SoulRaffle z = c.held(1, Checks.persons(1, "plain", 9) + Checks.goods(8, 1, "a") + "fits 6 - others;", all);
        c.is("cut at 0 each", z.joy(0), 0);
        z.bring(0);
        c.is("seven with six others", z.joy(0), 0);
        z.bring(1);
        c.is("six with five others", z.joy(0), 6);
    }

    private void joyOfOthers() {
        c.edge(24, "JOY; NONE: others.");
        SoulRaffle x = c.held(6, Checks.persons(6, "plain", 9) + Checks.goods(3, 7, "a"), 5, 0, 0);
        c.row("joy", x::joy, 14, 0, 0, 0, 0, 7, -1);
        c.wrong("joy", x::joy, 6, -1);
        c.wrong("joy of nobody", new SoulRaffle()::joy, 0, -1);
    }

    // ---- ENVY ----

    private void envyMore() {
        c.edge(25, "of whom all that they HOLD FITS that PERSON more, together");
        for (int more = 0; more <= 2; more++) {
            SoulRaffle x = c.held(2, two() + "good m worth 5 of a; good n worth " + (4 + more) + " of a;", 0, 1);
            c.row("where b's FITS " + (more - 1) + " more", x::envy, more == 2 ? 2 : 0, more == 0 ? 1 : 0, -1);
        }
        SoulRaffle y = c.held(2, two() + "good m worth 5 of a; good n worth 2 of a; good o worth 3 of a;", 0, 1, 1);
        c.row("two that FIT as much together", y::envy, 0, 0, -1);
        SoulRaffle z = c.held(2, two() + "good m worth 5 of a; good n worth 2 of a; good o worth 4 of a;", 0, 1, 1);
        c.row("two that FIT more together", z::envy, 2, 0, -1);
    }

    private void envyByOneLess() {
        c.edge(25, "(others being one less than these are)");
        // to a, who HOLDS one, b's two have one other each, and b's have none besides a's one
        SoulRaffle x = c.held(2, two() + Checks.goods(3, 0, "a") + "fits others * 3;", 0, 1, 1);
        c.row("joy", x::joy, 0, 6, -1);
        c.row("a by 3 and 3", x::envy, 2, 0, -1);
        SoulRaffle y = c.held(2, two() + Checks.goods(3, 0, "a") + "fits 7 - others * 4;", 0, 1, 1);
        c.row("joy", y::joy, 7, 6, -1);
        c.row("b by 7 against 3 and 3, a by 3 and 3 against 7", y::envy, 0, 1, -1);
        SoulRaffle z = c.held(2, two() + Checks.goods(3, 0, "a") + "fits 6 - others * 3;", 0, 1, 1);
        c.row("as much", z::envy, 0, 0, -1);
    }

    private void envyOfThoseWithout() {
        c.edge(25, "than what they HOLD themselves.");
        SoulRaffle x = c.held(3, Checks.persons(3, "plain", 9) + "good m worth 1 of a; good n worth 0 of a;", 1, 0);
        c.row("by nothing of one, not of nought", x::envy, 2, 0, 2, -1);
        c.is("of nobody HOLDING anything", c.open(two() + Checks.goods(2, 9, "a")).envy(0), 0);
        SoulRaffle y = c.held(1, Checks.persons(1, "plain", 9) + Checks.goods(1, 9, "a"), 0);
        c.is("never of themselves", y.envy(0), 0);
        SoulRaffle z = c.held(6, Checks.persons(6, "plain", 9) + "good m worth 2 of a; good n worth 1 of a;", 5, 0);
        c.row("by six", z::envy, 32, 33, 33, 33, 33, 0, -1);
    }

    private void envyOfOthers() {
        c.edge(25, "ENVY, as bits; NONE: others.");
        SoulRaffle x = c.held(6, Checks.persons(6, "plain", 9) + Checks.goods(1, 2, "a"), 5);
        c.is("the first", x.envy(0), 32);
        c.wrong("envy", x::envy, 6, -1);
        c.wrong("envy of nobody", new SoulRaffle()::envy, 0, -1);
    }

    // ---- OFFERS ----

    private void offersNone() {
        c.edge(26, "1: the first; NONE: others, none (but 0).");
        c.row("no GOODS", c.open(two())::offers, 0, -1, -1);
        c.row("in the OFFICE", c.open(two() + Checks.goods(2, 1, "a") + "likes a n 1; likes b m 1;")::offers, 0, -1, -1);
        c.row("alike", c.held(2, two() + Checks.goods(2, 1, "a"), 0, 1)::offers, 0, -1, -1);
        c.row("one", c.held(2, two() + Checks.goods(2, 1, "a") + "likes a n 1; likes b m 1;", 0, 1)::offers, 1, 1, -1);
        c.row("one gains alone", c.held(2, two() + Checks.goods(2, 1, "a") + "likes a n 1;", 0, 1)::offers, 0, -1, -1);
        c.row("two of one", c.held(1, Checks.persons(1, "plain", 9) + Checks.goods(2, 1, "a") + "likes a n 1;", 0, 0)::offers, 0, -1, -1);
    }

    private void offersFirstPair() {
        c.edge(26, "the first pair (by the first one, then the other one): 8 * the first one + the other one.");
        int[] last = {0, 0, 0, 0, 0, 0, 0, 1};
        String likes = Checks.goods(8, 1, "a") + "likes a t 1;";
        c.row("the last pair", c.held(2, two() + likes + "likes b s 1;", last)::offers, 1, 8 * 6 + 7, -1);
        c.row("the first of two", c.held(2, two() + likes + "likes b s 1; likes b r 1;", last)::offers, 2, 8 * 5 + 7, -1);
        c.row("the first with the last", c.held(2, two() + likes + "likes b s 1; likes b m 1;", last)::offers, 2, 7, -1);
        c.row("all seven", c.held(2, two() + Checks.goods(7, 1, "a") + "good t worth 2 of a; likes b t 1;"
            + "likes b m 9;likes b n 9;likes b o 9;likes b p 9;likes b q 9;likes b r 9;likes b s 9;", last)::offers, 7, 7, -1);
        // m with b's n and o: by the other one
        c.row("by the other one", c.held(2, two() + Checks.goods(3, 1, "a") + "likes b m 1; likes a n 1; likes a o 2;", 0, 1, 1)
            ::offers, 2, 1, -1);
        c.row("n with a's m, and o", c.held(2, two() + Checks.goods(3, 1, "a") + "likes b o 1; likes a n 1;", 0, 1, 0)
            ::offers, 1, 8 + 2, -1);
    }

    private void offersOfOthers() {
        c.edge(26, "OFFERS, what 0: how many, 1: the first; NONE: others");
        SoulRaffle x = c.held(2, two() + Checks.goods(2, 1, "a") + "likes a n 1; likes b m 1;", 0, 1);
        c.wrong("offers", x::offers, 2, -1);
        c.is("nothing is swapped", x.good(0, 2), 0);
        c.is("how many still", x.offers(0), 1);
    }

    // ---- WANT, FANS, DULL ----

    private void wantOfEqualOnes() {
        c.edge(27, "of equal ones the first. FANS");
        c.row("all alike", c.open(two() + Checks.goods(8, 1, "a"))::want, 0, 0, -1);
        c.row("one more by the last", c.open(two() + Checks.goods(8, 1, "a") + "likes a t 1;")::want, 7, 0, -1);
        c.row("two more", c.open(two() + Checks.goods(8, 1, "a") + "likes a t 1; likes a s 1;")::want, 6, 0, -1);
        c.row("all FIT 0", c.open(two() + Checks.goods(8, 1, "a") + "fits 0;")::want, 0, 0, -1);
        c.row("all FIT 99, cut", c.open(two() + Checks.goods(8, 1, "a") + "fits 100 + like; likes a n 9;")::want, 0, 0, -1);
    }

    private void wantHeldByWhomever() {
        c.edge(27, "WANT of a PERSON: the GOOD that FITS the most, HELD by whomever");
        SoulRaffle x = c.held(2, two() + "good m worth 1 of a; good n worth 2 of a; good o worth 3 of a;", 0, 1);
        c.row("in the OFFICE", x::want, 2, 2, -1);
        x.quarter();
        c.row("HELD by the one or the other", x::want, 2, 2, -1);
        SoulRaffle y = c.held(2, two() + Checks.goods(2, 5, "a") + "fits price - others;", 1, 0);
        // what they HOLD themselves has no other besides it
        c.row("their own", y::want, 1, 0, -1);
    }

    private void wantOfOthers() {
        c.edge(27, "WANT; NONE: others, no GOODS.");
        SoulRaffle x = c.open(Checks.persons(6, "plain", 9) + Checks.goods(2, 1, "a") + "likes f n 1;");
        c.row("want", x::want, 0, 0, 0, 0, 0, 1, -1);
        c.wrong("want", x::want, 6, -1);
        c.row("no GOODS", c.open(two())::want, -1, -1, -1);
        c.wrong("nobody", new SoulRaffle()::want, 0, -1);
    }

    private void fansOfEqualOnes() {
        c.edge(28, "FANS of a GOOD: PERSONS to whom no GOOD FITS more (bits).");
        SoulRaffle x = c.open(Checks.persons(6, "plain", 9) + Checks.goods(8, 1, "a"));
        c.row("all alike", x::fans, 63, 63, 63, 63, 63, 63, 63, 63, -1);
        SoulRaffle y = c.open(two() + Checks.goods(3, 1, "a") + "likes a m 1; likes a o 1;");
        c.row("two that FIT one more", y::fans, 3, 2, 3, -1);
        SoulRaffle z = c.open(two() + Checks.goods(3, 1, "a") + "likes a m 1; likes a o 2;");
        c.row("one that FITS two more", z::fans, 2, 2, 3, -1);
        c.row("all FIT 0", c.open(two() + Checks.goods(2, 0, "a"))::fans, 3, 3, -1);
    }

    private void fansOfOthers() {
        c.edge(28, "FANS, as bits; NONE: others.");
        SoulRaffle x = c.open(two() + Checks.goods(8, 1, "a") + "likes b t 1;");
        c.is("the last", x.fans(7), 3);
        c.wrong("fans", x::fans, 8, -1);
        c.wrong("fans of nothing", new SoulRaffle()::fans, 0, -1);
    }

    private void dull() {
        c.edge(29, "DULL: GOODS of which nobody is a FAN (bits).");
        c.is("all alike", c.open(two() + Checks.goods(8, 1, "a")).dull(), 0);
        c.is("all but the last", c.open(two() + Checks.goods(8, 1, "a") + "likes a t 1; likes b t 1;").dull(), 127);
        c.is("all but the first", c.open(two() + Checks.goods(8, 1, "a") + "likes a m 1; likes b m 1;").dull(), 254);
        c.is("all but two", c.open(two() + Checks.goods(8, 1, "a") + "likes a m 1; likes b t 1;").dull(), 126);
        c.is("one FAN is enough", c.open(two() + Checks.goods(8, 1, "a") + "likes a m 1;").dull(), 0);
        c.is("no GOODS", c.open(two()).dull(), 0);
        c.is("nothing", new SoulRaffle().dull(), 0);
    }

    // ---- RINGS ----

    private void ringsPutInTheFirst() {
        c.edge(30, "each PERSON who HOLDS any puts in the first GOOD that they HOLD.");
        // a HOLDS m and p, b n and o: m and n are put in, though p and o are liked more
        SoulRaffle x = c.held(2, two() + Checks.goods(4, 1, "a") + "likes a o 9; likes b p 9; likes a n 1; likes b m 1;", 0, 1, 1, 0);
        c.row("gets", x::gets, 1, 0, -1);
        c.is("rounds", x.rounds(), 1);
        x.bring(0);
        c.row("p is a's first then", x::gets, 1, 3, -1);
        x.bring(1);
        c.row("o is b's", x::gets, 2, 3, -1);
    }

    private void ringsOfEqualOnes() {
        c.edge(30, "that FITS the most (others being those they keep; of equal ones the first)");
        SoulRaffle x = c.held(3, Checks.persons(3, "plain", 9) + Checks.goods(3, 1, "a"), 2, 1, 0);
        // all would have m, which is c's
        c.row("who has m keeps it, then who has n", x::gets, 2, 1, 0, -1);
        c.is("rounds", x.rounds(), 3);
        SoulRaffle y = c.held(3, Checks.persons(3, "plain", 9) + Checks.goods(3, 1, "a") + "likes c o 1; likes a m 1;", 2, 1, 0);
        c.row("c for o, a for m, b for m", y::gets, 0, 1, 2, -1);
        c.is("rounds", y.rounds(), 2);
    }

    /** b would have m or o, who have these would have n: the first GOOD, whoever put it in. */
    private void ringsOfTheFirstGood() {
        c.edge(30, "of equal ones the first)");
        String rest = Checks.goods(3, 1, "a") + "likes a n 5; likes c n 5; likes b m 5; likes b o 5;";
        SoulRaffle x = c.held(3, Checks.persons(3, "plain", 9) + rest, 0, 1, 2);
        c.row("m is a's", x::gets, 1, 0, 2, -1);
        SoulRaffle y = c.held(3, Checks.persons(3, "plain", 9) + rest, 2, 1, 0);
        c.row("m is c's", y::gets, 2, 0, 1, -1);
        SoulRaffle z = c.held(3, Checks.persons(3, "plain", 9) + rest + "likes b n 5;", 2, 1, 0);
        c.row("m ahead of their own n, too", z::gets, 2, 0, 1, -1);
    }

    private void ringsByWhatTheyKeep() {
        c.edge(30, "others being those they keep");
        // a keeps two, b none
        String law = "fits price * (others < 2) + like;";
        SoulRaffle x = c.held(2, two() + "good m worth 5 of a; good n worth 9 of a; good o worth 9 of a; good p worth 1 of b;"
            + "likes a p 1; likes b m 1;" + law, 0, 0, 0, 1);
        c.row("by two kept like alone counts", x::gets, 3, 0, -1);
        x.bring(2);
        c.row("by one kept price does", x::gets, 0, 3, -1);
        SoulRaffle y = c.held(2, two() + Checks.goods(2, 5, "a") + "likes a n 1; likes b m 1; fits like * (others = 0);", 0, 1);
        c.row("by none kept", y::gets, 1, 0, -1);
    }

    private void ringsOut() {
        c.edge(31, "each gets what they point to, and all of all rings are out.");
        // two rings at once, and one who is left
        SoulRaffle x = c.held(5, Checks.persons(5, "plain", 9) + Checks.goods(5, 1, "a") + "likes a n 2; likes b m 2;"
            + "likes c p 2; likes d o 2; likes e m 2;", 0, 1, 2, 3, 4);
        c.row("gets", x::gets, 1, 0, 3, 2, 4, -1);
        c.is("rounds", x.rounds(), 2);
        c.row("nothing is moved", g -> x.good(g, 2), 0, 1, 2, 3, 4);
        c.is("what can be undone", x.count(9), 10);
    }

    private void getsOfOthers() {
        c.edge(30, "GETS; NONE: others, HOLDS nothing.");
        SoulRaffle x = c.held(6, Checks.persons(6, "plain", 9) + Checks.goods(8, 1, "a"), 5, 0);
        c.row("gets", x::gets, 1, -1, -1, -1, -1, 0, -1);
        c.wrong("gets", x::gets, 6, -1);
        c.row("in the OFFICE all", c.open(two() + Checks.goods(8, 1, "a"))::gets, -1, -1, -1);
        c.wrong("nobody", new SoulRaffle()::gets, 0, -1);
    }

    private void roundsFromNoughtToSix() {
        c.edge(31, "ROUNDS (0: nobody HOLDS anything).");
        c.is("nothing", new SoulRaffle().rounds(), 0);
        SoulRaffle x = c.held(6, Checks.persons(6, "plain", 9) + Checks.goods(6, 1, "a"), 0, 1, 2, 3, 4, 5);
        for (int i = 6; i > 0; i--) {
            c.is("one by one", x.rounds(), i);
            x.bring(i - 1);
        }
        c.is("none any more", x.rounds(), 0);
        SoulRaffle y = c.held(6, Checks.persons(6, "plain", 9) + Checks.goods(6, 1, "a")
            + "likes a n 1;likes b o 1;likes c p 1;likes d q 1;likes e r 1;likes f m 1;", 0, 1, 2, 3, 4, 5);
        c.is("all six in one ring", y.rounds(), 1);
        c.row("gets", y::gets, 1, 2, 3, 4, 5, 0, -1);
        SoulRaffle z = c.held(1, Checks.persons(1, "plain", 9) + Checks.goods(8, 1, "a"), 0);
        c.is("one with themselves", z.rounds(), 1);
        c.is("gets their own", z.gets(0), 0);
    }
}
