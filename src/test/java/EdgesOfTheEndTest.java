/** The edges of promises 41 to 49: RICH, SAD, LACK, DEBT, POOR, RESTS, LUCK, MARKS, count. */
public final class EdgesOfTheEndTest {
    private final Checks c = new Checks();

    public static void main(String[] args) {
        EdgesOfTheEndTest t = new EdgesOfTheEndTest();
        t.rich();
        t.richNobody();
        t.sad();
        t.sadNobody();
        t.lack();
        t.lackOfOthers();
        t.debt();
        t.poor();
        t.restsFromNoughtToNine();
        t.restsOfAll();
        t.restsNoneSuch();
        t.luckSeeds();
        t.luckQuarters();
        t.luckWhats();
        t.luckWithoutPersons();
        t.luckWithoutGoods();
        t.luckBuysIfItCanBe();
        t.luckSwapsNotTheSame();
        t.luckAsAhead();
        t.marksFromNoughtToThree();
        t.marksWithNothingOnThem();
        t.marksHoldAll();
        t.marksHoldTheSeen();
        t.marksAndUndo();
        t.marksOfAnOffice();
        t.countOfOthers();
        t.countWhenEmpty();
        t.countWhenFull();
        t.c.edgesOf(41, 49);
        t.c.end("EdgesOfTheEndTest");
    }

    private static String persons(int many) {
        return Checks.persons(many, "plain", 9);
    }

    // ---- RICH, SAD, LACK, DEBT, POOR ----

    private void rich() {
        c.edge(41, "RICH: who has the most shillings; of equal ones the first.");
        c.is("all alike", c.open(persons(6)).rich(), 0);
        c.is("one more by the last", c.open(persons(5) + "person f plain coins 10;").rich(), 5);
        c.is("two of the most", c.open("person a plain coins 8;person b plain coins 9;person c plain coins 9;").rich(), 1);
        c.is("all without", c.open(Checks.persons(6, "plain", 0)).rich(), 0);
        SoulRaffle x = c.open(persons(2));
        x.buy(0);
        c.is("one less", x.rich(), 1);
        x.buy(1);
        c.is("one less both", x.rich(), 0);
        SoulRaffle y = c.open("person a plain coins 49;person b plain coins 50;");
        c.is("50", y.rich(), 1);
        y.quarter();
        c.is("50 both", y.rich(), 0);
    }

    private void richNobody() {
        c.edge(41, "RICH; NONE: nobody.");
        c.is("nothing", new SoulRaffle().rich(), -1);
        c.is("an OFFICE of nobody", c.open("seed 1;").rich(), -1);
        c.is("one", c.open("person a plain coins 0;").rich(), 0);
    }

    private void sad() {
        c.edge(42, "SAD: who has the least JOY; of equal ones the first.");
        c.is("all alike", c.open(persons(6)).sad(), 0);
        c.is("the first HOLDS one", c.held(2, persons(2) + Checks.goods(2, 1, "a"), 0).sad(), 1);
        c.is("alike", c.held(2, persons(2) + Checks.goods(2, 1, "a"), 0, 1).sad(), 0);
        c.is("the last has less", c.held(3, persons(3) + Checks.goods(3, 2, "a") + "likes a m 1;likes b n 1;", 0, 1, 2).sad(), 2);
        c.is("two of the least", c.held(3, persons(3) + Checks.goods(3, 2, "a") + "likes a m 1;", 0, 1, 2).sad(), 1);
        c.is("by nothing that FITS", c.held(2, persons(2) + Checks.goods(2, 0, "a"), 0).sad(), 0);
    }

    private void sadNobody() {
        c.edge(42, "SAD; NONE: nobody.");
        c.is("nothing", new SoulRaffle().sad(), -1);
        c.is("an OFFICE of nobody", c.open("seed 1;").sad(), -1);
        c.is("one", c.open("person a plain coins 0;").sad(), 0);
    }

    private void lack() {
        c.edge(43, "LACK of a PERSON: GOODS of theirs by rights that they do not HOLD (bits).");
        SoulRaffle x = c.open(persons(2) + Checks.goods(8, 1, "a"));
        c.row("in the OFFICE all", x::lack, 255, 0, -1);
        x.buy(0);
        for (int i = 0; i <= 8; i++) {
            c.row("so many HELD", x::lack, 255 & ~((1 << i) - 1), 0, -1);
            x.quarter();
        }
        x.bring(7);
        c.row("the last", x::lack, 128, 0, -1);
        SoulRaffle y = c.held(2, persons(2) + "good m worth 1 of a; good n worth 1 of b; good o worth 1 of b;", 1, 1, 0);
        c.row("HELD by others", y::lack, 1, 4, -1);
    }

    private void lackOfOthers() {
        c.edge(43, "LACK, as bits; NONE: others.");
        SoulRaffle x = c.open(persons(6) + Checks.goods(1, 1, "f"));
        c.row("lack", x::lack, 0, 0, 0, 0, 0, 1, -1);
        c.wrong("lack", x::lack, 6, -1);
        c.wrong("nobody", new SoulRaffle()::lack, 0, -1);
    }

    private void debt() {
        c.edge(44, "DEBT: how many GOODS are HELD by others than those whose they are.");
        c.is("nothing", new SoulRaffle().debt(), 0);
        SoulRaffle x = c.open(persons(2) + Checks.goods(8, 1, "a"));
        x.buy(1);
        for (int i = 0; i <= 8; i++) {
            c.is("so many with another", x.debt(), i);
            x.quarter();
        }
        x.bring(0);
        c.is("one in the OFFICE", x.debt(), 7);
        SoulRaffle y = c.held(1, persons(1) + Checks.goods(8, 1, "a"), 0, 0, 0, 0, 0, 0, 0, 0);
        c.is("all with their own", y.debt(), 0);
        SoulRaffle z = c.held(2, persons(2) + "good m worth 1 of a; good n worth 1 of b; good o worth 1 of b;", 1, 1, 0);
        c.is("two of three", z.debt(), 2);
    }

    private void poor() {
        c.edge(45, "POOR: PERSONS who HOLD nothing, and have no ticket, and no shilling (bits).");
        c.is("nothing", new SoulRaffle().poor(), 0);
        c.is("all six", c.open(Checks.persons(6, "plain", 0)).poor(), 63);
        c.is("by one shilling", c.open(Checks.persons(6, "plain", 1)).poor(), 0);
        c.is("the first and the last", c.open("person a plain coins 0;person b plain coins 1;person d plain coins 0;").poor(), 5);
        SoulRaffle x = c.open("person a plain coins 1;");
        x.buy(0);
        c.is("with a ticket, and no shilling", x.poor(), 0);
        x.undo();
        x.quarter();
        c.is("with shillings", x.poor(), 0);
        // one HOLDS a GOOD, and has no ticket: given by a meek one
        SoulRaffle y = c.open("person a meek coins 1; person b plain coins 0;" + Checks.goods(1, 1, "b"));
        c.is("b", y.poor(), 2);
        y.buy(0);
        c.is("b still", y.poor(), 2);
        y.quarter();
        c.is("not with a shilling", y.poor(), 0);
    }

    // ---- RESTS ----

    private int rests(SoulRaffle x, int both, int loses, int gains, int what) {
        try {
            return x.rests(both, loses, gains, what);
        } catch (java.util.NoSuchElementException e) {
            return -99;
        }
    }

    private void restsFromNoughtToNine() {
        c.edge(46, "both swap: each gets so much (0 to 9); one would: he loses so much (0 to 9), the other one gets so much (0 to 9)");
        SoulRaffle x = new SoulRaffle();
        for (int much : new int[] {0, 1, 8, 9}) {
            c.is("both get " + much, rests(x, much, 5, 5, -1), much >= 5 ? 2 : 1);
            c.is("one loses " + much, rests(x, 5, much, 5, -1), much == 0 ? 4 : 2);
            c.is("the other one gets " + much, rests(x, 5, 5, much, -1), much <= 5 ? 2 : 1);
        }
        for (int much : new int[] {-1, 10, Integer.MAX_VALUE, Integer.MIN_VALUE}) {
            for (int what = -1; what <= 1; what++) {
                c.noRest(x, much, 5, 5, what);
                c.noRest(x, 5, much, 5, what);
                c.noRest(x, 5, 5, much, what);
            }
        }
    }

    /** What the one gets by his choice and the other one's. */
    private static int gets(int both, int loses, int gains, int own, int others) {
        int[][] table = {{0, gains}, {-loses, both}};
        return table[own][others];
    }

    private void restsOfAll() {
        c.edge(46, "RESTS: by which neither would get more by the other.");
        SoulRaffle x = new SoulRaffle();
        for (int i = 0; i < 1000; i++) {
            int both = i / 100;
            int loses = i / 10 % 10;
            int gains = i % 10;
            int found = 0;
            for (int first = 0; first <= 1; first++) {
                for (int other = 0; other <= 1; other++) {
                    boolean rests = gets(both, loses, gains, 1 - first, other) <= gets(both, loses, gains, first, other)
                        && gets(both, loses, gains, 1 - other, first) <= gets(both, loses, gains, other, first);
                    if (rests) {
                        c.is("rest " + found + " of " + i, rests(x, both, loses, gains, found), 2 * first + other);
                        found++;
                    }
                }
            }
            c.is("rests of " + i, rests(x, both, loses, gains, -1), found);
            c.is("one more of " + i, rests(x, both, loses, gains, found), -99);
        }
    }

    private void restsNoneSuch() {
        c.edge(46, "NoSuchElementException: others, none such.");
        SoulRaffle x = new SoulRaffle();
        c.is("how many", rests(x, 5, 2, 3, -1), 2);
        c.is("the first", rests(x, 5, 2, 3, 0), 0);
        c.is("the last", rests(x, 5, 2, 3, 1), 3);
        for (int what : new int[] {2, 3, 4, -2, -3, Integer.MAX_VALUE, Integer.MIN_VALUE}) {
            c.noRest(x, 5, 2, 3, what);
        }
        c.is("the last of four", rests(x, 0, 0, 0, 3), 3);
        c.noRest(x, 0, 0, 0, 4);
        c.is("the only one", rests(x, 0, 9, 9, 0), 0);
        c.noRest(x, 0, 9, 9, 1);
        c.is("it is as ahead", x.count(9), 0);
    }

    // ---- LUCK ----

    private void luckSeeds() {
        c.edge(47, "LUCK by a SEED (0 to 9999)");
        // two who have one ticket, and shillings for no other: the first DRAWS are whose turn it is, and two GOODS
        SoulRaffle x = c.open("person a plain coins 1; person b plain coins 1; person d mate coins 0;" + Checks.goods(2, 1, "a")
            + "seed 5;");
        x.buy(0);
        x.buy(1);
        for (int seed : new int[] {0, 1, 2, 4999, 9998, 9999}) {
            long g = Checks.next(Checks.next(Checks.next(Checks.next(seed))));
            c.is("luck(" + seed + ", 1, 1)", x.luck(seed, 1, 1), Checks.drawn(g, 2) == 0 ? 1 : 0);
            c.is("luck(" + seed + ", 1, 0)", x.luck(seed, 1, 0), 1);
        }
        for (int seed : new int[] {-1, 10000, -2, 10001, Integer.MAX_VALUE, Integer.MIN_VALUE}) {
            for (int what = 0; what <= 2; what++) {
                c.is("luck(" + seed + ", 1, " + what + ")", x.luck(seed, 1, what), -1);
            }
        }
    }

    private void luckQuarters() {
        c.edge(47, "of so many (1 to 99) QUARTERS");
        SoulRaffle y = c.open(Checks.persons(1, "mate", 1) + Checks.goods(8, 1, "a"));
        for (int quarters : new int[] {1, 2, 7, 8, 9, 98, 99}) {
            c.is("luck(0, " + quarters + ", 0)", y.luck(0, quarters, 0), Math.min(8, quarters));
            c.is("luck(0, " + quarters + ", 1)", y.luck(0, quarters, 1), (1 << Math.min(8, quarters)) - 1);
            c.is("luck(0, " + quarters + ", 2)", y.luck(0, quarters, 2), Math.min(8, quarters));
        }
        for (int quarters : new int[] {0, 100, -1, 101, Integer.MAX_VALUE, Integer.MIN_VALUE}) {
            for (int what = 0; what <= 2; what++) {
                c.is("luck(0, " + quarters + ", " + what + ")", y.luck(0, quarters, what), -1);
            }
        }
    }

    private void luckWhats() {
        c.edge(47, "what 0: how many, 1: bits, 2: how much; NONE: others.");
        SoulRaffle x = c.open(Checks.persons(1, "plain", 1) + Checks.goods(8, 9, "a"));
        c.row("luck", what -> x.luck(0, 3, what), 3, 7, 27, -1);
        c.wrong("luck(0, 3, _)", what -> x.luck(0, 3, what), 3, -1);
        c.edge(47, "how many GOODS were won by these");
        x.buy(0);
        x.quarter();
        x.quarter();
        c.row("those won ahead do not count", what -> x.luck(0, 3, what), 3, 31, 45, -1);
        c.row("none is left in the end", what -> x.luck(0, 9, what), 6, 255, 72, -1);
        // a proud one brings it in every second quarter, and wins it again
        SoulRaffle y = c.open(Checks.persons(1, "proud", 1) + Checks.goods(1, 4, "a"));
        for (int quarters : new int[] {1, 2, 3, 4, 98, 99}) {
            int wins = (quarters + 1) / 2;
            c.row("by " + quarters, what -> y.luck(0, quarters, what), wins, quarters % 2, 4 * (quarters % 2), -1);
        }
    }

    private void luckWithoutPersons() {
        c.edge(47, "each, if there are PERSONS");
        SoulRaffle x = new SoulRaffle();
        c.row("nothing", what -> x.luck(0, 1, what), 0, 0, 0, -1);
        c.row("99 of nothing", what -> x.luck(9999, 99, what), 0, 0, 0, -1);
        c.is("luck(10000, 1, 0)", x.luck(10000, 1, 0), -1);
        c.is("the quarter", x.count(2), 0);
    }

    /** Without GOODS nothing can be seen of it but that it ends, and that all is as ahead. */
    private void luckWithoutGoods() {
        c.edge(47, "then, also without these, the QUARTER");
        SoulRaffle x = c.open(persons(6));
        c.row("no GOODS", what -> x.luck(7, 99, what), 0, 0, 0, -1);
        c.is("tickets", x.count(4), 0);
        SoulRaffle y = c.open(Checks.persons(1, "plain", 0) + Checks.goods(1, 1, "a"));
        c.is("no shilling in the first, one in the second", y.luck(0, 1, 0), 0);
        c.is("a ticket in the second", y.luck(0, 2, 0), 1);
    }

    private void luckBuysIfItCanBe() {
        c.edge(47, "a DRAW below PERSONS: that one BUYS, if it can be");
        // b alone has a shilling, and buys if it is b's turn
        SoulRaffle x = c.open("person a plain coins 0; person b plain coins 1; person d plain coins 0;" + Checks.goods(1, 1, "b"));
        int bought = 0;
        for (int seed = 0; seed < 60; seed++) {
            boolean isB = Checks.drawn(Checks.next(seed), 3) == 1;
            c.is("luck(" + seed + ", 1, 0)", x.luck(seed, 1, 0), isB ? 1 : 0);
            c.is("luck(" + seed + ", 1, 1)", x.luck(seed, 1, 1), isB ? 1 : 0);
            bought += isB ? 1 : 0;
        }
        c.is("some buy, some do not", bought > 5 && bought < 55, true);
        // nine tickets are the most: a's tenth would move b's
        SoulRaffle y = c.open("person a plain coins 50; person b plain coins 1;" + Checks.goods(1, 1, "b"));
        for (int i = 0; i < 9; i++) {
            y.buy(0);
        }
        y.buy(1);
        for (int seed = 0; seed < 200; seed++) {
            long g = Checks.next(Checks.next(Checks.next(Checks.next(seed))));
            c.is("ten tickets, luck(" + seed + ", 1, 1)", y.luck(seed, 1, 1), Checks.drawn(g, 10) == 9 ? 1 : 0);
        }
    }

    private void luckSwapsNotTheSame() {
        c.edge(47, "two DRAWS below GOODS: these are SWAPPED, if it can be (not the same)");
        SoulRaffle x = c.held(2, Checks.persons(2, "plain", 1) + "good m worth 1 of b; good n worth 1 of a; good o worth 9 of a;"
            + "likes a n 1; likes b m 1;", 0, 1);
        int swapped = 0;
        for (int seed = 0; seed < 100; seed++) {
            long second = Checks.next(Checks.next(seed));
            int one = Checks.drawn(second, 3);
            int other = Checks.drawn(Checks.next(second), 3);
            boolean can = one + other == 1;
            c.is("luck(" + seed + ", 1, 1)", x.luck(seed, 1, 1) & 3, can ? 3 : 0);
            swapped += can ? 1 : 0;
        }
        c.is("some are swapped, some are not", swapped > 5 && swapped < 95, true);
        SoulRaffle y = c.open(Checks.persons(1, "plain", 1) + Checks.goods(1, 1, "a"));
        c.row("one GOOD, always the same", what -> y.luck(3, 99, what), 1, 1, 1, -1);
        c.edge(47, "if there are GOODS, too, two DRAWS below GOODS");
        SoulRaffle z = c.open(Checks.persons(2, "plain", 1) + Checks.goods(1, 1, "a"));
        z.buy(0);
        z.buy(1);
        for (int seed = 0; seed < 60; seed++) {
            long g = Checks.next(Checks.next(Checks.next(Checks.next(seed))));
            c.is("two DRAWS of one GOOD, too", z.luck(seed, 1, 1), Checks.drawn(g, 2) == 0 ? 1 : 0);
        }
    }

    private void luckAsAhead() {
        c.edge(47, "from now on (all is as ahead then)");
        SoulRaffle x = c.held(2, persons(2) + Checks.goods(4, 1, "a") + "likes a n 1; likes b m 1;", 0, 1);
        int winner = x.winner(1);
        x.luck(1, 99, 0);
        c.row("count", x::count, 2, 4, 2, 12, 2, 20, 2, 0, 0, 4, 0);
        c.row("who HOLDS", g -> x.good(g, 2), 0, 1, -1, -1);
        c.is("the DRAW is as ahead", x.quarter(), winner);
        c.is("luck is the same again", x.luck(9, 9, 2), x.luck(9, 9, 2));
    }

    // ---- MARKS ----

    private void marksFromNoughtToThree() {
        c.edge(48, "MARKS 0 to 3 hold all that UNDO brings back");
        for (int mark = 0; mark <= 3; mark++) {
            SoulRaffle x = c.open(persons(1));
            c.is("mark(" + mark + ", false)", x.mark(mark, false), true);
            x.buy(0);
            c.is("mark(" + mark + ", true)", x.mark(mark, true), true);
            c.is("tickets", x.count(4), 0);
            for (int other = 0; other <= 3; other++) {
                c.is("mark(" + other + ", true)", x.mark(other, true), other == mark);
            }
        }
        SoulRaffle y = c.open(persons(1));
        for (int mark : new int[] {-1, 4, -2, 5, Integer.MAX_VALUE, Integer.MIN_VALUE}) {
            c.is("mark(" + mark + ", false)", y.mark(mark, false), false);
            c.is("mark(" + mark + ", true)", y.mark(mark, true), false);
        }
        SoulRaffle z = c.open(persons(1));
        for (int mark = 0; mark <= 3; mark++) {
            c.is("each its own", z.mark(mark, false), true);
            z.buy(0);
        }
        for (int mark = 3; mark >= 0; mark--) {
            c.is("back", z.mark(mark, true), true);
            c.is("tickets", z.count(4), mark);
        }
    }

    private void marksWithNothingOnThem() {
        c.edge(48, "true; false: none such, nothing is on it (back).");
        SoulRaffle x = c.open(persons(1));
        x.buy(0);
        for (int mark = 0; mark <= 3; mark++) {
            c.is("mark(" + mark + ", true)", x.mark(mark, true), false);
        }
        c.is("all stays", x.count(4), 1);
        c.is("what can be undone stays", x.count(9), 1);
        x.see(0, 1, true);
        c.is("of a new object", new SoulRaffle().mark(0, true), false);
        SoulRaffle y = new SoulRaffle();
        c.is("a new object's can be laid", y.mark(3, false), true);
        y.quarter();
        c.is("and gone back to", y.mark(3, true), true);
        c.is("the quarter", y.count(2), 0);
    }

    private void marksHoldAll() {
        c.edge(48, "hold all that UNDO brings back, what is SEEN");
        SoulRaffle x = c.held(2, persons(2) + Checks.goods(4, 1, "a") + "likes a n 1; likes b m 1;", 0, 1);
        x.see(0, 1, true);
        int winner = x.winner(1);
        c.is("laid", x.mark(1, false), true);
        c.is("year()", Checks.year(x, "quarter;"), 0);
        x.see(0, 2, true);
        x.see(0, 9, true);
        x.swap(0, 1);
        x.quarter();
        x.bring(0);
        x.buy(0);
        c.is("back", x.mark(1, true), true);
        c.row("count", x::count, 2, 4, 2, 12, 2, 20, 2, 1, 1, 0, 0);
        c.row("who HOLDS", g -> x.good(g, 2), 0, 1, -1, -1);
        c.row("tickets", p -> x.person(p, 2), 1, 1);
        c.row("shillings", p -> x.person(p, 1), 10, 10);
        c.is("who", x.who(), 3);
        c.is("the DRAW is the same", x.quarter(), winner);
        c.is("back once more", x.mark(1, true), true);
        c.is("the quarter", x.count(2), 2);
        x.bring(0);
        c.is("laid anew", x.mark(1, false), true);
        x.bring(1);
        c.is("back to the new", x.mark(1, true), true);
        c.row("who HOLDS", g -> x.good(g, 2), -1, 1, -1, -1);
    }

    /** By three GOODS, by how much, by more or less: what is SEEN comes back whole. */
    private void marksHoldTheSeen() {
        c.edge(48, "what is SEEN (nothing can be undone when one is gone back to)");
        SoulRaffle x = c.open(persons(3) + Checks.goods(2, 1, "a") + "likes a m 4; likes b n 4; likes c m 2;");
        c.is("nothing SEEN", x.mark(0, false), true);
        Runnable[] sights = {() -> x.see(0, 5, true), () -> x.see(1, 5, true), () -> x.see(0, 2, false), () -> x.see(0, 3, true)};
        int[] who = {1, 2, 2, 5};
        for (int i = 0; i < sights.length; i++) {
            x.mark(0, true);
            sights[i].run();
            c.is("who by sight " + i, x.who(), who[i]);
            for (int j = 0; j < sights.length; j++) {
                x.mark(0, true);
                sights[i].run();
                x.mark(3, false);
                x.mark(0, true);
                sights[j].run();
                c.is("who by sight " + j, x.who(), who[j]);
                x.mark(2, false);
                c.is("back", x.mark(3, true), true);
                c.is("who by sight " + i + " again", x.who(), who[i]);
                c.is("forth", x.mark(2, true), true);
                c.is("who by sight " + j + " again", x.who(), who[j]);
            }
        }
        SoulRaffle y = c.open(persons(2) + Checks.goods(1, 1, "a") + "likes b m 1;");
        for (int i = 0; i < 7; i++) {
            y.see(0, 0, true);
        }
        y.see(0, 2, true);
        y.mark(1, false);
        y.mark(0, false);
        c.is("all eight", y.who(), 2);
        c.is("an OFFICE with a FAULT", Checks.office(y, "x"), 1);
        c.is("back", y.mark(1, true), true);
        c.is("all eight still", y.who(), 2);
        c.is("SEEN", y.count(8), 8);
        c.is("a ninth", y.see(0, 0, true), false);
    }

    private void marksAndUndo() {
        c.edge(48, "(nothing can be undone when one is gone back to)");
        SoulRaffle x = c.open(persons(1));
        x.buy(0);
        x.buy(0);
        c.is("laid", x.mark(0, false), true);
        c.is("laying one leaves what can be undone", x.count(9), 2);
        c.is("undo", x.undo(), true);
        c.is("tickets", x.count(4), 1);
        c.is("back", x.mark(0, true), true);
        c.is("tickets", x.count(4), 2);
        c.is("what can be undone", x.count(9), 0);
        c.is("undo", x.undo(), false);
        c.is("tickets", x.count(4), 2);
        x.buy(0);
        c.is("what can be undone", x.count(9), 1);
        c.is("undo", x.undo(), true);
        c.is("no further", x.undo(), false);
        c.is("tickets", x.count(4), 2);
        x.buy(0);
        c.is("one that is not there", x.mark(1, true), false);
        c.is("leaves what can be undone", x.count(9), 1);
    }

    private void marksOfAnOffice() {
        c.edge(48, "nothing can be undone, no MARK is there.");
        SoulRaffle x = c.open(persons(1));
        for (int mark = 0; mark <= 3; mark++) {
            x.mark(mark, false);
        }
        c.is("an OFFICE with a FAULT", Checks.office(x, "x"), 1);
        for (int mark = 0; mark <= 3; mark++) {
            c.is("they stay", x.mark(mark, true), true);
        }
        c.is("a YEAR", Checks.year(x, "quarter;"), 0);
        c.is("they stay", x.mark(0, true), true);
        c.is("the YEAR stays", x.count(7), 1);
        c.is("another OFFICE", Checks.office(x, persons(2)), 0);
        for (int mark = 0; mark <= 3; mark++) {
            c.is("they are gone", x.mark(mark, true), false);
        }
    }

    // ---- count ----

    private void countOfOthers() {
        c.edge(49, "10: signs on the TAPE. NONE for another what.");
        SoulRaffle x = c.open(persons(6) + Checks.goods(8, 1, "a"));
        x.feed(0, 0, 'x');
        c.is("count(0)", x.count(0), 6);
        c.is("count(10)", x.count(10), 1);
        c.wrong("count", x::count, 11, -1);
        c.wrong("count of a new object", new SoulRaffle()::count, 11, -1);
    }

    private void countWhenEmpty() {
        c.edge(49, "What 0: PERSONS, 1: GOODS, 2: the quarter, 3: GOODS in the OFFICE, as bits");
        c.row("an OFFICE of nothing", c.open("")::count, 0, 0, 0, 0, 0, 0, 0, 0, 0, 0, 0, -1);
        c.row("one without shillings", c.open(Checks.persons(1, "plain", 0))::count, 1, 0, 0, 0, 0, 0, 0, 0, 0, 0, 0, -1);
        c.row("one GOOD", c.open(Checks.persons(1, "plain", 0) + Checks.goods(1, 1, "a"))::count, 1, 1, 0, 1, 0, 0, 0, 0, 0, 0, 0, -1);
    }

    private void countWhenFull() {
        c.edge(49, "4: tickets of all, 5: shillings of all, 6: JOY of all, 7: lines of the YEAR, 8: SEEN, 9: what can be undone");
        SoulRaffle x = c.open(Checks.persons(6, "plain", 50) + Checks.goods(8, 1, "a") + "fits 9999;");
        c.row("count", x::count, 6, 8, 0, 255, 0, 300, 0, 0, 0, 0, 0);
        for (int i = 0; i < 54; i++) {
            x.buy(i / 9);
        }
        c.row("count", x::count, 6, 8, 0, 255, 54, 246, 0, 0, 0, 16, 0);
        for (int i = 0; i < 8; i++) {
            x.quarter();
            x.see(0, 0, true);
        }
        c.is("a YEAR", Checks.year(x, "quarter;".repeat(40)), 0);
        Checks.feed(x, " ".repeat(1010));
        c.row("count", x::count, 6, 8, 8, 0, 54, 294, 8 * 99, 40, 8, 16, 1000, -1);
        x.quarter();
        x.quarter();
        x.quarter();
        c.row("count", x::count, 6, 8, 11, 0, 54, 300, 8 * 99, 40, 8, 16, 1000, -1);
    }
}
