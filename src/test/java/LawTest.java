/** Promises 3 and 7: the E of fits. */
public final class LawTest {
    public static void main(String[] args) {
        Checks c = new Checks();
        numbers(c);
        operators(c);
        order(c);
        longLaws(c);
        facts(c);
        c.end("LawTest");
    }

    /** FIT of a GOOD worth 7 to the one who likes it by 3 and whose it is. */
    private static void fits(Checks c, String law, int due) {
        SoulRaffle x = c.open("person a plain coins 1; good g worth 7 of a; likes a g 3; fits " + law + ";");
        c.is("fits " + law, x.fit(0, 0), due);
    }

    private static void numbers(Checks c) {
        fits(c, "0", 0);
        fits(c, "0042", 42);
        fits(c, "99", 99);
        fits(c, "100", 99);
        fits(c, "9999", 99);
        fits(c, "0 - 1", 0);
        fits(c, "9999 * 9999 * 9999", 0);
        fits(c, "9999 * 9999 * 9999 + 9999 * 9999 * 7 + 9999 * 5734 - 5000", wrapped());
        fits(c, "4096 * 4096 * 256", 0);
        fits(c, "4096 * 4096 * 256 + 5", 5);
        fits(c, "4096 * 4096 * 128 < 0", 1);
        fits(c, "4096 * 4096 * 128 - 1 < 0", 0);
    }

    private static int wrapped() {
        int e = 9999 * 9999 * 9999 + 9999 * 9999 * 7 + 9999 * 5734 - 5000;
        return Math.max(0, Math.min(99, e));
    }

    private static void operators(Checks c) {
        fits(c, "5 + 3", 8);
        fits(c, "5 - 3", 2);
        fits(c, "5 * 3", 15);
        fits(c, "5 < 3", 0);
        fits(c, "3 < 5", 1);
        fits(c, "3 < 3", 0);
        fits(c, "3 = 3", 1);
        fits(c, "3 = 5", 0);
        fits(c, "2 and 4", 1);
        fits(c, "2 and 0", 0);
        fits(c, "0 and 2", 0);
        fits(c, "0 or 0", 0);
        fits(c, "0 or 9", 1);
        fits(c, "9 or 0", 1);
        fits(c, "0 - 1 and 1", 1);
        fits(c, "not 0", 1);
        fits(c, "not 7", 0);
        fits(c, "not not 7", 1);
    }

    private static void order(Checks c) {
        fits(c, "9 - 3 - 2", 4);
        fits(c, "9 - (3 - 2)", 8);
        fits(c, "2 + 3 * 4", 14);
        fits(c, "(2 + 3) * 4", 20);
        fits(c, "2 * 3 + 4", 10);
        fits(c, "not 0 + 5", 6);
        fits(c, "not (0 + 5)", 0);
        fits(c, "not 0 * 5", 5);
        fits(c, "1 + 1 < 3", 1);
        fits(c, "1 + (1 < 3)", 2);
        fits(c, "5 = 2 + 3", 1);
        fits(c, "1 or 1 and 0", 0);
        fits(c, "1 or (1 and 0)", 1);
        fits(c, "0 and 0 or 1", 1);
        fits(c, "0 and (0 or 1)", 0);
        fits(c, "1 < 2 and 2 < 1 or 3 = 3", 1);
        fits(c, "((2 + 1) * (3 - 1)) * 2", 12);
    }

    /** As many sums waiting for their last part as there can be, and as many parts as a tape holds. */
    private static void longLaws(Checks c) {
        fits(c, deep("1"), 1);
        fits(c, deep("0"), 0);
        SoulRaffle x = c.open("person a plain coins 1; good g worth 7 of a; fits " + "0+".repeat(470) + "7;");
        c.is("a long sum", x.fit(0, 0), 7);
    }

    private static String deep(String inmost) {
        String law = "0 or 0 = 1 - 1 * " + inmost;
        for (int i = 0; i < 4; i++) {
            law = "0 or 0 = 1 - 1 * (" + law + ")";
        }
        return law;
    }

    private static void facts(Checks c) {
        fits(c, "price", 7);
        fits(c, "like", 3);
        fits(c, "mine", 1);
        fits(c, "others", 0);
        fits(c, "price * 10 + like", 73);
        SoulRaffle x = c.open("person a plain coins 9; person b plain coins 9; good g worth 7 of a; good h worth 2 of b;"
            + "likes b g 4; fits price + like * 10 + mine * 20 + others * 30;");
        c.is("a, g", x.fit(0, 0), 27);
        c.is("a, h", x.fit(0, 1), 2);
        c.is("b, g", x.fit(1, 0), 47);
        c.is("b, h", x.fit(1, 1), 22);
        x.buy(0);
        x.quarter();
        c.is("a, g that they hold", x.fit(0, 0), 27);
        c.is("a, h besides g", x.fit(0, 1), 32);
        c.is("b, h still", x.fit(1, 1), 22);
        x.quarter();
        c.is("a, g besides h", x.fit(0, 0), 57);
        c.is("a, h besides g, held", x.fit(0, 1), 32);
        SoulRaffle y = c.open("person a plain coins 9; good g worth 7 of a; likes a g 3;");
        c.is("without fits", y.fit(0, 0), 10);
    }
}
