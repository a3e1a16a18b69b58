/** The edges of promises 1 and 2, and of the TOKENS: what the document says of how long, how many, which signs. */
public final class EdgesOfTheTapeTest {
    private static final long BLANKS = 0x2020202020202020L;

    private final Checks c = new Checks();

    public static void main(String[] args) {
        EdgesOfTheTapeTest t = new EdgesOfTheTapeTest();
        t.newObject();
        t.newObjectIsAsAnEmptyOffice();
        t.upTo24Signs();
        t.highestFirst();
        t.othersAreLeftOut();
        t.beyondAThousandIsLeftOut();
        t.howManyThereAre();
        t.readingTakesIt();
        t.asLongAsCanBe();
        t.blanks();
        t.words();
        t.numbers();
        t.letterBehindANumber();
        t.signs();
        t.none();
        t.c.edgesOf(1, 4);
        t.c.end("EdgesOfTheTapeTest");
    }

    // ---- promise 1 ----

    private void newObject() {
        c.edge(1, "Nothing.");
        SoulRaffle x = new SoulRaffle();
        c.row("count", x::count, 0, 0, 0, 0, 0, 0, 0, 0, 0, 0, 0, -1);
        c.row("person(0, _)", what -> x.person(0, what), -1, -1, -1, -1, -1);
        c.row("good(0, _)", what -> x.good(0, what), -2, -2, -2, -2);
        c.is("fit", x.fit(0, 0), -1);
        c.is("buy", x.buy(0), -1);
        c.is("swap", x.swap(0, 1), false);
        c.is("bring", x.bring(0), -1);
        c.is("undo", x.undo(), false);
        c.row("judged", x::judged, -1, -1, 0, -2);
        c.row("winner", x::winner, -1, -1, -1);
        c.is("where", x.where(0, 0), -2);
        c.is("has", x.has(0, 0), -1);
        c.is("home", x.home(), 0);
        c.is("empty", x.empty(), 0);
        c.is("won", x.won(0, 1), -1);
        c.is("streak", x.streak(0, 1), -1);
        c.is("moves", x.moves(0), -1);
        c.is("least", x.least(), -1);
        c.is("rights", x.rights(), 0);
        c.is("joy", x.joy(0), -1);
        c.is("envy", x.envy(0), -1);
        c.row("offers", x::offers, 0, -1);
        c.is("want", x.want(0), -1);
        c.is("fans", x.fans(0), -1);
        c.is("dull", x.dull(), 0);
        c.is("gets", x.gets(0), -1);
        c.is("rounds", x.rounds(), 0);
        c.is("best(NONE)", x.best(-1), 0);
        c.is("best(0)", x.best(0), -2);
        c.is("owes", x.owes(0), -1);
        c.is("spare", x.spare(), 0);
        c.is("odds", x.odds(0, 1), -1);
        c.is("enough", x.enough(0, 50), -1);
        c.is("run", x.run(0), -1);
        c.is("see", x.see(0, 0, true), false);
        c.is("who", x.who(), 0);
        c.is("ask", x.ask(), -1);
        c.is("rich", x.rich(), -1);
        c.is("sad", x.sad(), -1);
        c.is("lack", x.lack(0), -1);
        c.is("debt", x.debt(), 0);
        c.is("poor", x.poor(), 0);
        c.row("luck", what -> x.luck(1, 99, what), 0, 0, 0, -1);
        c.row("mark back", mark -> x.mark(mark, true) ? 1 : 0, 0, 0, 0, 0, 0);
        c.is("nothing can be undone yet", x.count(9), 0);
        c.is("quarter", x.quarter(), -1);
        c.is("count(2)", x.count(2), 1);
        c.is("undo", x.undo(), true);
        c.is("count(2)", x.count(2), 0);
    }

    private void newObjectIsAsAnEmptyOffice() {
        c.edge(1, "At first: nothing.");
        SoulRaffle x = new SoulRaffle();
        SoulRaffle y = new SoulRaffle();
        c.is("an OFFICE of one", Checks.office(y, "person a plain coins 1; good m worth 1 of a;"), 0);
        c.is("another object has nothing of it", x.count(0) + x.count(1) + x.count(5), 0);
        c.is("an empty OFFICE", y.office(), 0);
        for (int what = 0; what <= 11; what++) {
            c.is("count(" + what + ")", y.count(what), x.count(what));
        }
        c.is("a YEAR of no OFFICE", Checks.year(x, "quarter;"), 0);
        c.is("lines", x.count(7), 1);
        c.is("a GOOD of no OFFICE", Checks.year(x, "bring m;"), 2 + 16 * 6);
        c.is("a PERSON of no OFFICE", Checks.year(x, "buy a;"), 2 + 16 * 4);
    }

    // ---- promise 2 ----

    private void upTo24Signs() {
        c.edge(2, "Up to 24 signs come behind the TAPE");
        c.is("none", new SoulRaffle().feed(0, 0, 0), 0);
        c.is("one", new SoulRaffle().feed(0, 0, 'x'), 1);
        c.is("23", new SoulRaffle().feed(BLANKS, BLANKS & ~255L, BLANKS), 23);
        c.is("24", new SoulRaffle().feed(BLANKS, BLANKS, BLANKS), 24);
        SoulRaffle x = new SoulRaffle();
        Checks.feed(x, "seed 1");
        c.is("they come behind", x.feed(0, ';', 0), 7);
        c.is("office()", x.office(), 0);
    }

    /** Where a sign that can't stand is, is told by its fault. */
    private void highestFirst() {
        c.edge(2, "the bytes of a, b, c, of each the highest first");
        for (int place = 0; place < 24; place++) {
            long[] row = {BLANKS, BLANKS, BLANKS};
            int shift = 56 - 8 * (place % 8);
            row[place / 8] = BLANKS & ~(255L << shift) | (long) 'x' << shift;
            SoulRaffle x = new SoulRaffle();
            c.is("feed", x.feed(row[0], row[1], row[2]), 24);
            c.is("office() of x at " + place, x.office(), 1 + 16 * place);
        }
    }

    private void othersAreLeftOut() {
        c.edge(2, "others than 10 and 32 .. 126");
        for (int sign = 0; sign < 256; sign++) {
            boolean isSign = sign == 10 || sign >= 32 && sign <= 126;
            for (int shift = 0; shift < 64; shift += 8) {
                long eight = (long) sign << shift;
                c.is("feed(" + sign + " << " + shift + ", 0, 0)", new SoulRaffle().feed(eight, 0, 0), isSign ? 1 : 0);
                c.is("feed(0, " + sign + " << " + shift + ", 0)", new SoulRaffle().feed(0, eight, 0), isSign ? 1 : 0);
                c.is("feed(0, 0, " + sign + " << " + shift + ")", new SoulRaffle().feed(0, 0, eight), isSign ? 1 : 0);
            }
        }
        c.is("feed(-1, -1, -1)", new SoulRaffle().feed(-1, -1, -1), 0);
        c.is("the least long", new SoulRaffle().feed(Long.MIN_VALUE, Long.MIN_VALUE, Long.MIN_VALUE), 0);
        SoulRaffle x = new SoulRaffle();
        c.is("left out between others", x.feed(0x73ff650965801f64L, 0x0b7f20000031003bL, 0), 7);
        c.is("office() of 'seed 1;'", x.office(), 0);
    }

    private static SoulRaffle blanks(int many) {
        SoulRaffle x = new SoulRaffle();
        Checks.feed(x, " ".repeat(many));
        return x;
    }

    private void beyondAThousandIsLeftOut() {
        c.edge(2, "what is beyond 1,000, are left out");
        c.is("the thousandth", blanks(999).feed('x', 0, 0), 1000);
        c.is("a thousand and first", blanks(1000).feed('x', 0, 0), 1000);
        c.is("the last two, one of which is beyond", blanks(999).feed('x', 'x', 0), 1000);
        SoulRaffle x = blanks(999);
        x.feed(0, 'x', 'y');
        c.is("the first of these is on the tape", x.office(), 1 + 16 * 999);
        SoulRaffle y = blanks(1000);
        y.feed('x', 'x', 'x');
        c.is("none of these is", y.office(), 0);
        SoulRaffle z = blanks(999);
        c.is("what is left out takes no room", z.feed(0x7f, 0x80, 'x'), 1000);
        c.is("x is on the tape", z.office(), 1 + 16 * 999);
        SoulRaffle v = blanks(984);
        c.is("24 of which 16 find room", v.feed(BLANKS, BLANKS & ~255L | 'x', BLANKS & ~255L | 'y'), 1000);
        c.is("the sixteenth is the last", v.office(), 1 + 16 * 999);
        SoulRaffle w = blanks(984);
        w.feed(BLANKS, BLANKS, 0x7878787878787878L);
        c.is("the seventeenth is not on it", w.office(), 0);
        SoulRaffle u = blanks(976);
        c.is("24 that just find room", u.feed(BLANKS, BLANKS, BLANKS & ~255L | 'x'), 1000);
        c.is("the last of these", u.office(), 1 + 16 * 999);
    }

    private void howManyThereAre() {
        c.edge(2, "how many there are");
        SoulRaffle x = new SoulRaffle();
        for (int i = 1; i <= 50; i++) {
            c.is("feed", x.feed(BLANKS, BLANKS, BLANKS), Math.min(1000, 24 * i));
            c.is("count(10)", x.count(10), Math.min(1000, 24 * i));
        }
        c.is("nothing more", x.feed(0, 0, 0), 1000);
    }

    private void readingTakesIt() {
        c.edge(2, "what reads it takes it: it is empty then");
        for (String text : new String[] {"", " ", "seed 1;", "tram", " ".repeat(1000), "seed".repeat(250)}) {
            SoulRaffle x = new SoulRaffle();
            Checks.feed(x, text);
            x.office();
            c.is("behind office() of " + text.length() + " signs", x.count(10), 0);
            c.is("the first sign then", x.feed(0, 0, 'x'), 1);
            c.is("its place", x.office(), 1);
            Checks.feed(x, text);
            x.year();
            c.is("behind year() of " + text.length() + " signs", x.count(10), 0);
            c.is("the first sign then", x.feed(0, 0, 'x'), 1);
            c.is("its place", x.year(), 1);
        }
        SoulRaffle y = new SoulRaffle();
        Checks.feed(y, "seed 1");
        y.count(10);
        y.quarter();
        y.judged(0);
        c.is("nothing else takes it", y.feed(0, 0, ';'), 7);
    }

    // ---- the TOKENS ----

    private void asLongAsCanBe() {
        c.edge(3, "TOKENS, each as long as can be");
        c.officeFault(1, "^persona plain coins 1;");
        c.officeFault(1, "^seeds 1;");
        c.officeFault(1, "^fitsprice;");
        c.officeFault(1, "fits ^pricelike;");
        c.officeFault(1, "fits 1 ^andor 1;");
        c.officeFault(1, "fits price ^ormine;");
        c.officeFault(4, "person a plain coins ^051;");
        c.open("person a plain coins 050;");
        c.open("person persona plain coins 1; person persons plain coins 1;");
        SoulRaffle x = c.open(Checks.persons(1, "plain", 1) + "good m worth 12of a; fits 12+34;");
        c.is("12, not 1 and 2", x.good(0, 0), 12);
        c.is("12 + 34", x.fit(0, 0), 46);
    }

    private void blanks() {
        c.edge(3, "blanks (10, 32) between where one likes");
        c.open("person a plain coins 1;good m worth 1of a;likes a m 1;seed 1;fits(1)+2;");
        c.open("\n\n person\na\n \nplain  coins\n1 \n; good\nm worth\n1 of\na ;\n likes a\n\nm  1\n;seed\n1\n;\nfits (\n1 ) \n+ 2 ; \n");
        c.officeFault(1, "^per son a plain coins 1;");
        c.officeFault(1, "^per\nson a plain coins 1;");
        c.officeFault(1, "person a plain coins 1 ^0;");
        c.officeFault(1, "person a plain coins 1\n^0;");
        c.officeFault(1, "^see\nd 1;");
        SoulRaffle x = c.open(Checks.persons(1, "plain", 1) + Checks.goods(2, 1, "a"));
        c.is("a YEAR without blanks where none need be", Checks.year(x, "quarter;buy a;swap m n;bring m;"), 0);
        c.is("a YEAR of many blanks", Checks.year(x, "\n quarter\n ;buy\na  ; swap\n m\n\nn ; bring\nm\n\n;\n"), 0);
        c.is("lines", x.count(7), 4);
        c.yearFault(x, 1, "^quar ter;");
        c.is("31 is none that could stand there", new SoulRaffle().feed(31, 9, 13), 0);
    }

    private void words() {
        c.edge(3, "WORDS (letters a .. z, 8 at most)");
        c.open("person a plain coins 1; person abcdefg plain coins 1; person abcdefgh plain coins 1;");
        c.open("person z plain coins 1; person zzzzzzzz plain coins 1;");
        c.officeFault(1, "person ^abcdefghi plain coins 1;");
        c.officeFault(1, "person ^zzzzzzzzz plain coins 1;");
        c.officeFault(1, "person ^abcdefghij plain coins 1;");
        c.officeFault(1, "person ^" + "a".repeat(900) + " plain coins 1;");
        c.officeFault(1, "person ^`");
        c.officeFault(1, "person ^{");
        c.officeFault(1, "person ^A plain coins 1;");
        c.officeFault(1, "person ^Z plain coins 1;");
        c.officeFault(1, "person ^_ plain coins 1;");
        c.officeFault(1, "person a^B plain coins 1;");
        c.officeFault(1, "person a ^Plain coins 1;");
        c.officeFault(1, Checks.persons(1, "plain", 1) + "good m worth 1 of ^aaaaaaaaa;");
        c.is("words that differ by the eighth letter alone",
            c.open("person abcdefgh plain coins 1; person abcdefgi plain coins 2;").person(1, 1), 2);
        c.officeFault(3, "person abcdefgh plain coins 1; person ^abcdefgh plain coins 2;");
        c.is("by how many letters alone", c.open("person a plain coins 1; person aa plain coins 2; person aaa plain coins 3;")
            .count(5), 6);
        for (char letter = 'a'; letter <= 'z'; letter++) {
            StringBuilder all = new StringBuilder();
            for (int length = 1; length <= 8; length += length < 4 ? 1 : 4) {
                all.append("person ").append(String.valueOf(letter).repeat(length)).append(" plain coins 1;");
            }
            c.is("names of " + letter + " alone", c.open(all.toString()).count(0), 5);
            char other = letter == 'z' ? 'a' : (char) (letter + 1);
            c.officeFault(2, "person " + letter + " plain coins 1; good hat worth 1 of ^" + letter + letter + ";");
            c.officeFault(2, "person " + letter + other + " plain coins 1; good hat worth 1 of ^" + other + letter + ";");
            c.officeFault(2, "person " + letter + other + " plain coins 1; good hat worth 1 of ^" + other + ";");
        }
        SoulRaffle x = c.open("person abcdefgh plain coins 1; good m worth 1 of abcdefgh;");
        c.is("in a YEAR", Checks.year(x, "buy abcdefgh;"), 0);
        c.yearFault(x, 1, "buy ^abcdefghi;");
        c.yearFault(x, 2, "buy ^abcdefg;");
        c.yearFault(x, 1, "^quarterly ;");
    }

    private void numbers() {
        c.edge(3, "NUMBERS (1 to 4 digits;");
        for (String number : new String[] {"1", "01", "001", "0001"}) {
            c.is("coins " + number, c.open("person a plain coins " + number + ";").person(0, 1), 1);
        }
        c.officeFault(1, "person a plain coins ^00001;");
        c.officeFault(1, "person a plain coins ^000000001;");
        c.officeFault(1, "person a plain coins ^" + "0".repeat(900) + ";");
        c.officeFault(1, "seed ^10000;");
        c.open("seed 9999;");
        c.open("fits 0123+4567+89+0;");
        c.officeFault(1, "fits ^01234;");
        c.officeFault(1, "fits 1 + ^12345;");
        c.officeFault(1, "seed ^/;");
        c.officeFault(1, "seed ^:;");
        c.officeFault(1, "seed 1^/;");
        c.officeFault(1, "seed 1^:;");
        c.officeFault(1, "seed ^+1;");
        c.officeFault(1, "seed ^-1;");
        c.officeFault(1, "seed 1^.5;");
        c.officeFault(1, "seed 1^,000;");
    }

    private void letterBehindANumber() {
        c.edge(3, "a letter may stand right behind)");
        c.open("person a plain coins 1; good m worth 3of a;");
        SoulRaffle x = c.open(Checks.persons(1, "plain", 1) + "good m worth 9of a; fits 1and 1or 0;");
        c.is("1and 1or 0", x.fit(0, 0), 1);
        c.open(Checks.persons(1, "plain", 1) + "good m worth 0009of a;");
        c.officeFault(1, "seed 1^x;");
        c.officeFault(1, "seed ^12345x;");
        c.officeFault(1, "seed 1234^xxxxxxxxx;");
    }

    /** Every sign between two NUMBERS: what can stand there can, what ends the line ends it, all else is wrong itself. */
    private void signs() {
        c.edge(3, "the signs ( ) < = + - * ;");
        for (char sign = 33; sign <= 126; sign++) {
            boolean joins = "+-*<=".indexOf(sign) >= 0;
            boolean isDigit = sign >= '0' && sign <= '9';
            int place = sign == ';' ? 8 : 7;
            c.is("fits 1 " + sign + " 1;", Checks.office(new SoulRaffle(), "fits 1 " + sign + "1;"),
                joins ? 0 : 1 + 16 * (isDigit ? 7 : place));
            c.is(sign + " behind a line", Checks.office(new SoulRaffle(), "seed 1;" + sign), 1 + 16 * 7);
        }
        c.open("fits(1)+(2)-(3)*(4)<(5);");
        c.open("fits((1)=(2));");
        c.officeFault(1, "fits 1 <^= 2;");
        c.officeFault(1, "fits 1 =^= 2;");
        c.officeFault(1, "fits 2 *^* 2;");
        c.officeFault(1, "seed 1;^;");
    }

    private void none() {
        c.edge(3, "All else (a longer WORD or NUMBER, too, at its first sign) is none.");
        c.officeFault(1, "seed 1; ^seeeeeeed 1;");
        c.officeFault(1, "seed 1; person ^personpers on;");
        c.officeFault(1, "seed   ^12345");
        c.officeFault(1, "seed   ^123456789");
        c.officeFault(1, "^.");
        c.officeFault(1, "^!");
        c.officeFault(1, "^~");
        c.officeFault(1, "  ^#seed 1;");
        SoulRaffle x = c.open("");
        c.edge(4, "All else (a longer WORD or NUMBER, too, at its first sign) is none.");
        c.yearFault(x, 1, "quarter; ^quarterss ;");
        c.yearFault(x, 1, "quarter ^12345;");
        c.yearFault(x, 1, "quarter ^?;");
    }
}
