/** The edges of E and of FIT: promises 3 and 7. */
public final class EdgesOfTheLawTest {
    private final Checks c = new Checks();

    public static void main(String[] args) {
        EdgesOfTheLawTest t = new EdgesOfTheLawTest();
        t.within();
        t.tests();
        t.comparedOnce();
        t.sums();
        t.products();
        t.parts();
        t.oneOrNought();
        t.whatIsSo();
        t.wrap();
        t.price();
        t.mine();
        t.like();
        t.withoutFits();
        t.longest();
        t.cut();
        t.others();
        t.fitOfOthers();
        t.c.edgesOf(3, 3);
        t.c.edgesOf(7, 7);
        t.c.end("EdgesOfTheLawTest");
    }

    /** FIT of a GOOD worth 7 to the one who likes it by 3 and whose it is. */
    private void fits(String law, int due) {
        SoulRaffle x = c.open("person a plain coins 1; good g worth 7 of a; likes a g 3; fits " + law + ";");
        c.is("fits " + law, x.fit(0, 0), due);
    }

    private void within() {
        c.edge(3, "no PART lies within 5 of not and ( ).");
        fits("not not not not 1", 1);
        fits("((((1))))", 1);
        fits("((((price))))", 7);
        fits("(not (not 1))", 1);
        fits("not (not (1)) + ((((5)))) * not not not not 1", 6);
        c.edge(3, "not, or a PART, within 5 others.");
        c.officeFault(5, "fits not not not not not ^1;");
        c.officeFault(5, "fits not not not not not ^like;");
        c.officeFault(5, "fits not not not not not ^not 1;");
        c.officeFault(5, "fits not not not not not ^(1);");
        c.officeFault(5, "fits (((((^1)))));");
        c.officeFault(5, "fits (((((^others)))));");
        c.officeFault(5, "fits (((((^(1))))));");
        c.officeFault(5, "fits (((((^not 1)))));");
        c.officeFault(5, "fits not(not(not ^1));");
        c.officeFault(5, "fits (not(not(^1)));");
        c.officeFault(5, "fits (((1 + (2 * (^3)))));");
        c.officeFault(5, "fits ((((1))) + ((2 + ((^3)))));");
        c.officeFault(5, "fits 1 or 1 = 1 - 1 * (1 or 1 = 1 - 1 * (1 or (1 or (1 or (^1)))));");
        c.open("fits ((((1)))) + ((((1)))) and ((((1)))) = ((((1))));");
        c.open("fits (((1 + (2)) + (3)) + (4)) + (((5)));");
    }

    private void tests() {
        c.edge(3, "E: TEST { and TEST or or TEST }, from the left;");
        fits("0", 0);
        fits("1 or 1 and 0", 0);
        fits("0 and 1 or 1", 1);
        fits("1 or (1 and 0)", 1);
        fits("0 and (1 or 1)", 0);
        fits("1 and 1 and 1 and 0", 0);
        fits("0 or 0 or 0 or 1", 1);
        c.officeFault(1, "fits 1 and^;");
        c.officeFault(1, "fits 1 and ^or 1;");
        c.officeFault(1, "fits ^and 1;");
        c.officeFault(1, "fits 1 or ^;");
    }

    private void comparedOnce() {
        c.edge(3, "TEST: SUM, or SUM < SUM, or SUM = SUM;");
        fits("5", 5);
        fits("1 + 1 < 2 + 1", 1);
        fits("1 + 1 = 2 * 1", 1);
        c.officeFault(1, "fits 2 < 1 ^= 0 or 0;");
        fits("(2 < 1) = 0", 1);
        fits("2 < (1 = 0)", 0);
        c.officeFault(1, "fits 1 < 2 ^< 3;");
        c.officeFault(1, "fits 1 < 2 ^= 3;");
        c.officeFault(1, "fits 1 = 2 ^= 3;");
        c.officeFault(1, "fits 1 = 2 ^< 3;");
        c.officeFault(1, "fits (1 = 2 ^< 3);");
        c.officeFault(1, "fits 1 <^;");
        c.officeFault(1, "fits ^< 1;");
        fits("1 < 2 and 2 < 3 and 3 = 3", 1);
        c.edge(3, "Of not, and, or, < and = comes 1 or 0;");
        fits("6 < 7", 1);
        fits("7 < 7", 0);
        fits("8 < 7", 0);
        fits("6 = 7", 0);
        fits("7 = 7", 1);
        fits("8 = 7", 0);
        fits("0 - 1 < 0", 1);
        fits("0 < 0 - 1", 0);
    }

    private void sums() {
        c.edge(3, "SUM: PRODUCT { + or - PRODUCT };");
        fits("9 - 3 - 2", 4);
        fits("9 - 3 + 2", 8);
        fits("9 - (3 - 2)", 8);
        fits("1 - 2 + 3", 2);
        fits("2 + 3 * 4", 14);
        c.officeFault(1, "fits ^- 1;");
        c.officeFault(1, "fits ^+ 1;");
        c.officeFault(1, "fits 1 + ^- 1;");
        c.officeFault(1, "fits 1 -^;");
    }

    private void products() {
        c.edge(3, "PRODUCT: PART { * PART };");
        fits("2 * 3 * 4", 24);
        fits("2 * 3 + 4", 10);
        fits("2 * (3 + 4)", 14);
        fits("(2 - 3) * (2 - 3)", 1);
        c.officeFault(1, "fits ^* 1;");
        c.officeFault(1, "fits 2 * ^* 3;");
        c.officeFault(1, "fits 2 *^;");
    }

    private void parts() {
        c.edge(3, "PART: a NUMBER, a fact, not PART, ( E );");
        fits("not 0 + 5", 6);
        fits("not 0 * 5", 5);
        fits("not (0 + 5)", 0);
        fits("not not 5", 1);
        fits("(1 or 0)", 1);
        fits("(1 < 2) + (2 < 3)", 2);
        c.officeFault(1, "fits ^;");
        c.officeFault(1, "fits (^);");
        c.officeFault(1, "fits (1^;");
        c.officeFault(1, "fits ((1)^;");
        c.officeFault(1, "fits 1^);");
        c.officeFault(1, "fits (1)^);");
        c.officeFault(1, "fits not^;");
        c.officeFault(1, "fits 1 ^2;");
        c.officeFault(1, "fits 1 ^price;");
        c.officeFault(1, "fits price ^(1);");
        c.officeFault(1, "fits ^prices;");
        c.officeFault(1, "fits ^worth;");
        c.officeFault(1, "fits ^likes;");
        c.officeFault(1, "person a plain coins 1; fits ^a;");
    }

    private void oneOrNought() {
        c.edge(3, "Of not, and, or, < and = comes 1 or 0;");
        fits("not 0", 1);
        fits("not 1", 0);
        fits("not 2", 0);
        fits("5 and 7", 1);
        fits("5 and 0", 0);
        fits("0 and 7", 0);
        fits("0 and 0", 0);
        fits("5 or 7", 1);
        fits("5 or 0", 1);
        fits("0 or 7", 1);
        fits("0 or 0", 0);
        c.edge(3, "comes 1 or 0;");
        fits("(5 and 7) + 5", 6);
        fits("(0 and 7) + 5", 5);
        fits("(0 or 7) + 5", 6);
        fits("(0 or 0) + 5", 5);
        fits("not 0 + 5", 6);
        fits("not 7 + 5", 5);
        fits("(6 < 7) + 5", 6);
        fits("(7 < 7) + 5", 5);
        fits("(7 = 7) + 5", 6);
        fits("(6 = 7) + 5", 5);
        fits("not (0 and 1)", 1);
        fits("not (0 or 0)", 1);
        fits("not (1 < 0)", 1);
        fits("not (1 = 0)", 1);
    }

    private void whatIsSo() {
        c.edge(3, "what is not 0 is so;");
        fits("not (0 - 1)", 0);
        fits("(0 - 1) and 1", 1);
        fits("1 and (0 - 1)", 1);
        fits("0 or (0 - 1)", 1);
        fits("(1 - 1) or 0", 0);
        fits("4096 * 4096 * 128 and 1", 1);
        fits("4096 * 4096 * 256 or 0", 0);
        fits("not (4096 * 4096 * 256)", 1);
    }

    /** 4096 * 4096 * 128 is 2147483648, one more than the most. */
    private void wrap() {
        c.edge(3, "ints wrap.");
        fits("4096 * 4096 * 127 + 4096 * 4095 + 4095 < 0", 0);
        fits("4096 * 4096 * 127 + 4096 * 4095 + 4095 + 1 < 0", 1);
        fits("0 - 4096 * 4096 * 127 - 4096 * 4096 < 0", 1);
        fits("0 - 4096 * 4096 * 127 - 4096 * 4096 - 1 < 0", 0);
        fits("4096 * 4096 * 128 = 0 - 4096 * 4096 * 128", 1);
        fits("4096 * 4096 * 256", 0);
        fits("4096 * 4096 * 256 + 42", 42);
        fits("(4096 * 4096 * 128 - 1) * 2 + 44", 42);
        fits("4096 * 4096 * 128", 0);
        fits("4096 * 4096 * 128 - 1", 99);
    }

    private void price() {
        c.edge(3, "price (the GOOD's worth)");
        SoulRaffle x = c.open("person a plain coins 1; good m worth 0 of a; good n worth 1 of a; good o worth 30 of a; fits price;");
        c.row("fit", g -> x.fit(0, g), 0, 1, 30, -1);
    }

    private void mine() {
        c.edge(3, "mine (1: it is of that PERSON by rights)");
        SoulRaffle x = c.held(2, "person a plain coins 1; person b plain coins 1; good m worth 3 of a; good n worth 3 of b; fits mine;",
            1, 0);
        c.row("of a, who holds n", g -> x.fit(0, g), 1, 0, -1);
        c.row("of b, who holds m", g -> x.fit(1, g), 0, 1, -1);
    }

    private void like() {
        c.edge(3, "like (how they like it)");
        SoulRaffle x = c.open("person a plain coins 1; person b plain coins 1; good m worth 3 of a; good n worth 3 of b;"
            + "likes a n 20; likes b m 1; fits like;");
        c.row("of a", g -> x.fit(0, g), 0, 20, -1);
        c.row("of b", g -> x.fit(1, g), 1, 0, -1);
    }

    private void withoutFits() {
        c.edge(3, "Without fits: price + like.");
        SoulRaffle x = c.open("person a plain coins 1; person b plain coins 1; good m worth 30 of a; good n worth 0 of b;"
            + "likes a m 20; likes b n 1;");
        c.row("of a", g -> x.fit(0, g), 50, 0, -1);
        c.row("of b", g -> x.fit(1, g), 30, 1, -1);
    }

    /** As many PARTS as a TAPE holds, and as many as can wait for one more at every depth. */
    private void longest() {
        c.edge(3, "PART: a NUMBER, a fact, not PART, ( E );");
        String ahead = "person a plain coins 1;good g worth 7 of a;fits ";
        StringBuilder sum = new StringBuilder("7");
        while (ahead.length() + sum.length() + 2 < 1000) {
            sum.append("+0");
        }
        String text = ahead + sum + ";";
        c.is("signs", text.length() >= 999 && text.length() <= 1000, true);
        c.is("a sum of as many as can be", c.open(text).fit(0, 0), 7);
        for (int inmost = 0; inmost <= 1; inmost++) {
            String law = "" + inmost;
            for (int depth = 0; depth < 5; depth++) {
                law = "0 or 0 = 1 - 1 * " + (depth == 0 ? law : "(" + law + ")");
            }
            fits(law, inmost);
        }
    }

    private void cut() {
        c.edge(7, "the E of fits (0 to 99)");
        fits("0 - 9999", 0);
        fits("0 - 2", 0);
        fits("0 - 1", 0);
        fits("0", 0);
        fits("1", 1);
        fits("98", 98);
        fits("99", 99);
        fits("100", 99);
        fits("101", 99);
        fits("9999", 99);
        fits("(100 - 1) * 1", 99);
        fits("price - 8 + 100", 99);
    }

    private void others() {
        c.edge(7, "others being those they HOLD besides it.");
        int[] all = {0, 0, 0, 0, 0, 0, 0, 0};
        SoulRaffle x = c.held(1, Checks.persons(1, "plain", 9) + Checks.goods(8, 1, "a") + "fits others;", all);
        c.row("of all eight", g -> x.fit(0, g), 7, 7, 7, 7, 7, 7, 7, 7, -1);
        for (int left = 7; left >= 0; left--) {
            x.bring(left);
            c.is("of one brought, besides " + left, x.fit(0, left), left);
            c.is("of the first, besides " + left, x.fit(0, 0), Math.max(0, left - 1));
        }
        SoulRaffle y = c.held(2, Checks.persons(2, "plain", 9) + Checks.goods(5, 1, "a") + "fits others;", 0, 0, 1, 0);
        c.row("of a, who holds three", g -> y.fit(0, g), 2, 2, 3, 2, 3, -1);
        c.row("of b, who holds one", g -> y.fit(1, g), 1, 1, 0, 1, 1, -1);
    }

    private void fitOfOthers() {
        c.edge(7, "FIT of a GOOD to a PERSON; NONE: others.");
        SoulRaffle x = c.open(Checks.persons(6, "plain", 9) + Checks.goods(8, 3, "a"));
        c.is("the first of the first", x.fit(0, 0), 3);
        c.is("the last of the last", x.fit(5, 7), 3);
        c.wrong("fit(_, 0)", p -> x.fit(p, 0), 6, -1);
        c.wrong("fit(0, _)", g -> x.fit(0, g), 8, -1);
        SoulRaffle y = c.open(Checks.persons(1, "plain", 9) + Checks.goods(1, 3, "a"));
        c.is("the only one", y.fit(0, 0), 3);
        c.wrong("fit(_, 0) of one", p -> y.fit(p, 0), 1, -1);
        c.wrong("fit(0, _) of one", g -> y.fit(0, g), 1, -1);
    }
}
