/** Promise 2, and what of the TAPE is told elsewhere: reading takes it. */
public final class TapeTest {
    public static void main(String[] args) {
        Checks c = new Checks();
        takesSignsAlone(c);
        takesHighestFirst(c);
        holdsAThousand(c);
        isTakenByReading(c);
        c.end("TapeTest");
    }

    private static void takesSignsAlone(Checks c) {
        SoulRaffle x = new SoulRaffle();
        c.is("feed of nothing", x.feed(0, 0, 0), 0);
        c.is("feed of 255s", x.feed(-1, -1, -1), 0);
        c.is("feed of 9, 11, 31, 127, 128", x.feed(0x090b1f7f80L, 0, 0), 0);
        c.is("feed of 10, 32, 126", x.feed(0x0a207eL, 0, 0), 3);
        c.is("feed of 33 in each", x.feed(0x21L, 0x21L << 56, 0x21L), 6);
        c.is("feed of 24", x.feed(0x4141414141414141L, 0x4141414141414141L, 0x4141414141414141L), 30);
        c.is("count(10)", x.count(10), 30);
    }

    private static void takesHighestFirst(Checks c) {
        SoulRaffle x = new SoulRaffle();
        x.feed(0x7365656400000000L, 0x20L, 0x3900000000003bL);
        c.is("count(10)", x.count(10), 7);
        c.is("office() of 'seed 9;'", x.office(), 0);
        x.feed(0x7365656420L, 0x3bL, 0x39L);
        c.is("office() of 'seed ;9'", x.office(), 1 + 16 * 5);
    }

    private static void holdsAThousand(Checks c) {
        SoulRaffle x = new SoulRaffle();
        for (int i = 0; i < 41; i++) {
            x.feed(0x2020202020202020L, 0x2020202020202020L, 0x2020202020202020L);
        }
        c.is("984 signs", x.count(10), 984);
        c.is("feed beyond", x.feed(0x2020202020202020L, 0x2020202020202020L, 0x4141414141414141L), 1000);
        c.is("feed of more", x.feed(0x41L, 0, 0), 1000);
        c.is("office() of 1000 blanks", x.office(), 0);
        for (int i = 0; i < 42; i++) {
            x.feed(0x2020202020202020L, 0x2020202020202020L, 0x2020202020202020L);
        }
        Checks.feed(x, "seed");
        c.is("1000 signs", x.count(10), 1000);
        c.is("office() of them", x.office(), 0);
        c.is("the longest fault's place", Checks.office(x, " ".repeat(999) + "x"), 1 + 16 * 999);
        c.is("the end's place", Checks.office(x, " ".repeat(996) + "seed"), 1 + 16 * 1000);
    }

    private static void isTakenByReading(Checks c) {
        SoulRaffle x = new SoulRaffle();
        Checks.feed(x, "seed");
        c.is("count(10)", x.count(10), 4);
        c.is("office()", x.office(), 1 + 16 * 4);
        c.is("count(10) behind a fault", x.count(10), 0);
        Checks.feed(x, "quarter ;");
        c.is("year()", x.year(), 0);
        c.is("count(10) behind a year", x.count(10), 0);
        c.is("count(7)", x.count(7), 1);
        Checks.feed(x, "quarter");
        c.is("year() with a fault", x.year(), 1 + 16 * 7);
        c.is("count(10) behind its fault", x.count(10), 0);
        c.is("count(7) stays", x.count(7), 1);
    }
}
