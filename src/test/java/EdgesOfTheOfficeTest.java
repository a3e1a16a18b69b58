import java.util.ArrayList;
import java.util.Arrays;
import java.util.Collections;
import java.util.List;

/** The edges of promises 3 and 4: an OFFICE, a YEAR, their FAULTS; in those texts ^ stands ahead of the wrong token. */
public final class EdgesOfTheOfficeTest {
    private static final String P = "person a plain coins 1; ";
    private static final String PG = P + "good g worth 1 of a; ";
    private static final String NO_NAMES = "person coins good worth of likes seed fits quarter buy swap bring plain proud meek mate"
        + " not and or";

    private final Checks c = new Checks();

    public static void main(String[] args) {
        EdgesOfTheOfficeTest t = new EdgesOfTheOfficeTest();
        t.anyNumberOfLines();
        t.persons();
        t.kinds();
        t.coins();
        t.goods();
        t.worth();
        t.ofAPersonTold();
        t.likesOfThoseTold();
        t.likesByHowMuch();
        t.likesOnce();
        t.seeds();
        t.once();
        t.names();
        t.namesOfNoOthers();
        t.namesAlike();
        t.yearLines();
        t.yearNames();
        t.yearNotTheSame();
        t.placeOfAToken();
        t.placeOfTheEnd();
        t.firstFromTheLeft();
        t.leastOfKinds();
        t.oneTooMany();
        t.fromThenOn();
        t.nothingIsLeftOver();
        t.allStays();
        t.aYearIsTheYear();
        t.c.edgesOf(3, 4);
        t.c.end("EdgesOfTheOfficeTest");
    }

    private void anyNumberOfLines() {
        c.edge(3, "OFFICE: any number of");
        c.is("no line", c.open("").count(0), 0);
        c.is("blanks alone", c.open(" \n\n ").count(0), 0);
        c.is("one line", c.open("seed 1;").count(0), 0);
        String all = Checks.persons(6, "mate", 50) + Checks.goods(8, 30, "f");
        StringBuilder likes = new StringBuilder(all);
        for (int i = 0; i < 35; i++) {
            likes.append("likes ").append((char) ('a' + i / 8)).append(' ').append((char) ('m' + i % 8)).append(" 20;");
        }
        likes.append("seed 9;fits 1;");
        c.is("signs", likes.length() <= 1000, true);
        SoulRaffle x = c.open(likes.toString());
        c.is("more than forty lines", x.count(0) + x.count(1), 14);
        c.is("in any order", c.open("fits like;seed 3;person a plain coins 1;good m worth 1 of a;person b meek coins 2;"
            + "likes b m 3;likes a m 1;good n worth 0 of b;").fit(1, 0), 3);
    }

    private void persons() {
        c.edge(3, "person: 6 at most, numbered as told");
        for (int many = 0; many <= 6; many++) {
            SoulRaffle x = c.open(Checks.persons(many, "plain", 3));
            c.is("PERSONS", x.count(0), many);
            c.is("the last", x.person(many - 1, 0), many == 0 ? -1 : 0);
            c.is("beyond the last", x.person(many, 0), -1);
        }
        c.officeFault(5, Checks.persons(6, "plain", 3) + "^person g plain coins 3;");
        c.officeFault(5, Checks.persons(6, "plain", 3) + "seed 1; ^person");
        SoulRaffle x = c.open("person zz plain coins 4; person aa plain coins 2; person mm plain coins 3;");
        c.row("coins as told", p -> x.person(p, 1), 4, 2, 3, -1);
    }

    private void kinds() {
        c.edge(3, "KIND: plain, proud, meek, mate");
        SoulRaffle x = c.open("person a mate coins 0;person b meek coins 0;person c proud coins 0;person d plain coins 0;");
        c.row("kind", p -> x.person(p, 0), 3, 2, 1, 0, -1);
        c.officeFault(1, "person a ^kind coins 1;");
        c.officeFault(1, "person a ^plains coins 1;");
        c.officeFault(1, "person a ^prou coins 1;");
        c.officeFault(1, "person a ^; ");
        c.officeFault(1, "person a meek ^meek coins 1;");
    }

    private void coins() {
        c.edge(3, "coins 0 to 50.");
        for (int coins : new int[] {0, 1, 49, 50}) {
            c.is("coins " + coins, c.open("person a plain coins " + coins + ";").person(0, 1), coins);
        }
        c.officeFault(4, "person a plain coins ^51;");
        c.officeFault(4, "person a plain coins ^9999;");
        c.officeFault(4, "person a plain coins ^0051;");
        c.officeFault(1, "person a plain coins ^-1;");
    }

    private void goods() {
        c.edge(3, "good: 8 at most, numbered as told");
        for (int many = 0; many <= 8; many++) {
            SoulRaffle x = c.open(P + Checks.goods(many, 3, "a"));
            c.is("GOODS", x.count(1), many);
            c.is("all in the OFFICE", x.count(3), (1 << many) - 1);
            c.is("the last", x.good(many - 1, 0), many == 0 ? -2 : 3);
            c.is("beyond the last", x.good(many, 0), -2);
        }
        c.officeFault(5, P + Checks.goods(8, 3, "a") + "^good u worth 3 of a;");
        c.officeFault(5, P + Checks.goods(8, 3, "a") + "seed 1;^good");
        SoulRaffle x = c.open(P + "good zz worth 4 of a; good bb worth 2 of a; good mm worth 3 of a;");
        c.row("worth as told", g -> x.good(g, 0), 4, 2, 3, -2);
    }

    private void worth() {
        c.edge(3, "worth 0 to 30, by rights of a PERSON told.");
        for (int worth : new int[] {0, 1, 29, 30}) {
            c.is("worth " + worth, c.open(P + "good g worth " + worth + " of a;").good(0, 0), worth);
        }
        c.officeFault(4, P + "good g worth ^31 of a;");
        c.officeFault(4, P + "good g worth ^9999 of a;");
        c.officeFault(4, P + "good g worth ^0031 of a;");
        c.officeFault(1, P + "good g worth ^-1 of a;");
    }

    private void ofAPersonTold() {
        c.edge(3, "by rights of a PERSON told");
        c.officeFault(2, "good g worth 1 of ^a; person a plain coins 1;");
        c.officeFault(2, P + "good g worth 1 of ^b; person b plain coins 1;");
        c.officeFault(2, P + "good g worth 1 of ^g;");
        c.officeFault(2, PG + "good h worth 1 of ^g;");
        c.is("the first told", c.open(Checks.persons(6, "plain", 1) + "good g worth 1 of a;").good(0, 1), 0);
        c.is("the last told", c.open(Checks.persons(6, "plain", 1) + "good g worth 1 of f;").good(0, 1), 5);
    }

    private void likesOfThoseTold() {
        c.edge(3, "likes: a PERSON told, a GOOD told");
        c.officeFault(2, "likes ^a g 1; ");
        c.officeFault(2, "good g worth 1 of ^a; likes a g 1;");
        c.officeFault(2, P + "likes a ^g 1; good g worth 1 of a;");
        c.officeFault(2, PG + "likes ^b g 1; person b plain coins 1;");
        c.officeFault(2, PG + "likes ^g a 1;");
        c.officeFault(2, PG + "likes a ^a 1;");
        c.officeFault(2, PG + "likes ^g g 1;");
        String all = Checks.persons(6, "plain", 1) + Checks.goods(8, 0, "a");
        c.is("the last to the last", c.open(all + "likes f t 7;").fit(5, 7), 7);
        c.is("the first to the first", c.open(all + "likes a m 7;").fit(0, 0), 7);
    }

    private void likesByHowMuch() {
        c.edge(3, "a GOOD told, 1 to 20;");
        for (int like : new int[] {1, 2, 19, 20}) {
            c.is("likes " + like, c.open(PG + "likes a g " + like + ";").fit(0, 0), 1 + like);
        }
        c.officeFault(4, PG + "likes a g ^0;");
        c.officeFault(4, PG + "likes a g ^0000;");
        c.officeFault(4, PG + "likes a g ^21;");
        c.officeFault(4, PG + "likes a g ^9999;");
    }

    private void likesOnce() {
        c.edge(3, "each two once (0).");
        c.is("never", c.open(PG).fit(0, 0), 1);
        c.is("once", c.open(PG + "likes a g 5;").fit(0, 0), 6);
        c.officeFault(3, PG + "likes a g 5; likes a ^g 5;");
        c.officeFault(3, PG + "likes a g 5; seed 1; likes a ^g 0;");
        c.edge(3, "a GOOD behind likes that is told so of that PERSON");
        SoulRaffle x = c.open(Checks.persons(2, "plain", 1) + Checks.goods(2, 0, "a")
            + "likes a m 1; likes a n 2; likes b m 3; likes b n 4;");
        c.row("of a", g -> x.fit(0, g), 1, 2, -1);
        c.row("of b", g -> x.fit(1, g), 3, 4, -1);
        c.officeFault(3, Checks.persons(2, "plain", 1) + Checks.goods(2, 0, "a") + "likes a m 1; likes b n 2; likes b ^n 4;");
    }

    /** By one of two tickets the first winner tells the seeds apart. */
    private void seeds() {
        c.edge(3, "seed 0 to 9999 (0).");
        for (int seed : new int[] {0, 1, 2, 5000, 9998, 9999}) {
            SoulRaffle x = c.open(Checks.persons(6, "plain", 9) + Checks.goods(8, 1, "a") + "seed " + seed + ";");
            long g = seed;
            for (int person = 0; person < 6; person++) {
                x.buy(person);
            }
            for (int i = 1; i <= 8; i++) {
                g = Checks.next(g);
                c.is("seed " + seed + ", winner " + i, x.winner(i), Checks.drawn(g, 6));
            }
        }
        SoulRaffle none = c.open(Checks.persons(6, "plain", 9) + Checks.goods(8, 1, "a"));
        SoulRaffle nought = c.open(Checks.persons(6, "plain", 9) + Checks.goods(8, 1, "a") + "seed 0;");
        for (int person = 0; person < 6; person++) {
            none.buy(person);
            nought.buy(person);
        }
        for (int i = 1; i <= 9; i++) {
            c.is("without a seed as by 0", none.winner(i), nought.winner(i));
        }
        c.officeFault(1, "seed ^10000;");
        c.officeFault(1, "seed ^-1;");
    }

    private void once() {
        c.edge(3, "seed, fits: once each.");
        c.open("seed 1; fits 1;");
        c.open("fits 1; seed 1;");
        c.edge(3, "seed, fits a second time");
        c.officeFault(3, "seed 0; ^seed 0;");
        c.officeFault(3, "seed 1; fits 1; ^seed");
        c.officeFault(3, "fits 0; ^fits 0;");
        c.officeFault(3, "fits 1; seed 1; ^fits");
        SoulRaffle x = c.open("seed 1; fits 1;");
        c.is("once in each OFFICE", Checks.office(x, "seed 2; fits 2;"), 0);
        c.is("a fault does not count", Checks.office(x, "seed 2; fits 2; x"), 1 + 16 * 16);
        c.is("once more", Checks.office(x, "seed 2; fits 2;"), 0);
    }

    private void names() {
        c.edge(3, "A NAME is another WORD than person, coins, good, worth, of, likes, seed, fits, quarter, buy, swap, bring,"
            + " the KINDS, not, and, or;");
        for (String word : NO_NAMES.split(" ")) {
            c.officeFault(1, "person ^" + word + " plain coins 1;");
            c.officeFault(1, P + "good ^" + word + " worth 1 of a;");
            c.open("person " + word.charAt(0) + " plain coins 1;");
            c.is("a letter more than " + word, c.open("person x" + word.substring(0, Math.min(7, word.length()))
                + " plain coins 1;").count(0), 1);
        }
        for (String word : "price mine like others coin seeds orr nots office year hat".split(" ")) {
            c.is(word + " may be a PERSON", c.open("person " + word + " plain coins 1;").count(0), 1);
            c.is(word + " may be a GOOD", c.open(P + "good " + word + " worth 1 of a; likes a " + word + " 2;").fit(0, 0), 3);
        }
        SoulRaffle x = c.open("person price plain coins 1; good like worth 7 of price; likes price like 2; fits like * 10 + price;");
        c.is("facts are facts in an E", x.fit(0, 0), 27);
        c.is("and NAMES in a YEAR", Checks.year(x, "buy price; bring like;"), 0);
        c.edge(4, "A NAME is another WORD than person, coins, good, worth, of, likes, seed, fits, quarter, buy, swap, bring,"
            + " the KINDS, not, and, or;");
        SoulRaffle y = c.open(PG);
        for (String word : NO_NAMES.split(" ")) {
            c.yearFault(y, 1, "buy ^" + word + ";");
            c.yearFault(y, 1, "bring ^" + word + ";");
            c.yearFault(y, 1, "swap ^" + word + " g;");
            c.yearFault(y, 1, "swap g ^" + word + ";");
        }
    }

    private void namesOfNoOthers() {
        c.edge(3, "2 a NAME of no PERSON (behind of, likes, buy), of no GOOD (the second of likes; behind swap, its second,"
            + " bring) told");
        c.officeFault(2, PG + "good h worth 1 of ^aa;");
        c.officeFault(2, PG + "good h worth 1 of ^h;");
        c.officeFault(2, PG + "likes ^aa g 1;");
        c.officeFault(2, PG + "likes a ^gg 1;");
        c.officeFault(2, PG + "likes a ^price 1;");
        c.edge(4, "2 a NAME of no PERSON (behind of, likes, buy), of no GOOD (the second of likes; behind swap, its second,"
            + " bring) told");
        SoulRaffle x = c.open(PG);
        c.yearFault(x, 2, "buy ^aa;");
        c.yearFault(x, 2, "buy ^g;");
        c.yearFault(x, 2, "bring ^gg;");
        c.yearFault(x, 2, "bring ^a;");
        c.yearFault(x, 2, "swap ^gg g;");
        c.yearFault(x, 2, "swap ^a g;");
        c.yearFault(x, 2, "swap g ^gg;");
        c.yearFault(x, 2, "swap g ^a;");
        c.yearFault(x, 2, "swap ^others price;");
        c.is("an OFFICE in which others are told", Checks.office(x, "person b plain coins 1; good h worth 1 of b;"), 0);
        c.yearFault(x, 2, "buy ^a;");
        c.yearFault(x, 2, "bring ^g;");
        c.is("those are told now", Checks.year(x, "buy b; bring h;"), 0);
        c.is("an OFFICE with a FAULT tells nobody", Checks.office(x, P + "x"), 1 + 16 * 24);
        c.yearFault(x, 2, "buy ^a;");
    }

    private void namesAlike() {
        c.edge(3, "no two (PERSONS, GOODS) are alike.");
        c.officeFault(3, P + "person ^a plain coins 1;");
        c.officeFault(3, P + "person b plain coins 1; person ^b");
        c.officeFault(3, P + "good ^a worth 1 of a;");
        c.officeFault(3, PG + "good ^g worth 1 of a;");
        c.officeFault(3, PG + "person ^g plain coins 1;");
        c.officeFault(3, Checks.persons(5, "plain", 1) + "person ^e plain coins 1;");
        c.officeFault(3, P + Checks.goods(7, 1, "a") + "good ^s worth 1 of a;");
        c.officeFault(3, P + Checks.goods(7, 1, "a") + "good ^m worth 1 of a;");
        c.open(PG + "person aa plain coins 1; good gg worth 1 of aa;");
        SoulRaffle x = c.open(PG);
        c.is("the same NAME in another OFFICE", Checks.office(x, "person g plain coins 1; good a worth 1 of g;"), 0);
    }

    // ---- the YEAR ----

    private void yearLines() {
        c.edge(4, "40 lines at most.");
        SoulRaffle x = c.open(PG + "good h worth 1 of a;");
        for (int lines : new int[] {0, 1, 2, 39, 40}) {
            c.is(lines + " lines", Checks.year(x, "quarter;".repeat(lines)), 0);
            c.is("lines", x.count(7), lines);
        }
        for (String line : new String[] {"quarter;", "buy a;", "swap g h;", "bring g;"}) {
            c.is("forty of " + line, Checks.year(x, line.repeat(40)), 0);
            c.is("lines", x.count(7), 40);
            c.yearFault(x, 5, line.repeat(40) + "^" + line);
            c.yearFault(x, 5, line.repeat(40) + "^" + line + line);
        }
        c.yearFault(x, 1, "quarter;".repeat(40) + "^;");
        c.yearFault(x, 1, "quarter;".repeat(40) + "^quarters;");
        c.yearFault(x, 1, "quarter;".repeat(39) + "quarter^");
        c.yearFault(x, 1, "quarter;".repeat(39) + "^a;");
        c.yearFault(x, 5, "quarter;".repeat(40) + "^bring");
        c.is("lines as ahead", x.count(7), 40);
    }

    private void yearNames() {
        c.edge(4, "(a PERSON; two GOODS, not the same; a GOOD)");
        SoulRaffle x = c.open(Checks.persons(6, "plain", 1) + Checks.goods(8, 1, "a"));
        c.is("the first and the last of them", Checks.year(x, "buy a;buy f;swap m t;swap t m;bring m;bring t;"), 0);
        c.is("lines", x.count(7), 6);
        c.yearFault(x, 1, "buy ^;");
        c.yearFault(x, 1, "buy a ^b;");
        c.yearFault(x, 1, "swap m ^;");
        c.yearFault(x, 1, "swap m n ^o;");
        c.yearFault(x, 1, "bring ^;");
        c.yearFault(x, 1, "bring m ^n;");
        c.yearFault(x, 1, "quarter ^a;");
        c.yearFault(x, 1, "quarter ^1;");
        c.yearFault(x, 1, "buy ^1;");
    }

    private void yearNotTheSame() {
        c.edge(4, "the second one of swap that is the first one");
        SoulRaffle x = c.open(Checks.persons(1, "plain", 1) + Checks.goods(8, 1, "a"));
        c.yearFault(x, 3, "swap m ^m;");
        c.yearFault(x, 3, "swap t ^t");
        c.yearFault(x, 3, "swap m n; swap n ^n;");
        c.is("others", Checks.year(x, "swap m n; swap n m; swap s t; swap m t;"), 0);
    }

    // ---- the FAULTS ----

    private void placeOfAToken() {
        c.edge(3, "kind + 16 * the place (from 0) of a token");
        for (int place : new int[] {0, 1, 15, 16, 17, 500, 994, 995}) {
            c.is("x at " + place, Checks.office(new SoulRaffle(), " ".repeat(place) + "x ; ;"), 1 + 16 * place);
        }
        c.is("x at the last sign", Checks.office(new SoulRaffle(), "\n".repeat(999) + "x"), 1 + 16 * 999);
        c.is("4 at 20", Checks.office(new SoulRaffle(), "person a plain coins51;"), 4 + 16 * 20);
        c.is("4 at 21", Checks.office(new SoulRaffle(), "person a plain coins 51;"), 4 + 16 * 21);
        c.edge(4, "kind + 16 * the place (from 0) of a token");
        for (int place : new int[] {0, 1, 15, 16, 17, 500, 999}) {
            c.is("x at " + place, Checks.year(new SoulRaffle(), " ".repeat(place) + "x"), 1 + 16 * place);
        }
    }

    private void placeOfTheEnd() {
        c.edge(3, "the end being one at the text's length");
        c.officeFault(1, "seed^");
        c.officeFault(1, "seed ^");
        c.officeFault(1, "seed  \n^");
        c.officeFault(1, "seed 1^");
        c.officeFault(1, "seed 1    ^");
        c.is("at 1000", Checks.office(new SoulRaffle(), "seed" + " ".repeat(996)), 1 + 16 * 1000);
        c.is("at 999", Checks.office(new SoulRaffle(), "seed" + " ".repeat(995)), 1 + 16 * 999);
        c.is("what is beyond 1,000 is no end", Checks.office(new SoulRaffle(), "seed" + " ".repeat(996) + "1;"), 1 + 16 * 1000);
        c.edge(4, "the end being one at the text's length");
        SoulRaffle x = c.open(PG);
        c.yearFault(x, 1, "buy^");
        c.yearFault(x, 1, "buy a ^");
        c.yearFault(x, 1, "swap g \n ^");
        c.is("at 1000", Checks.year(x, " ".repeat(993) + "quarter"), 1 + 16 * 1000);
        c.is("the end can stand behind a line", Checks.year(x, " ".repeat(992) + "quarter;"), 0);
    }

    private void firstFromTheLeft() {
        c.edge(3, "of the first token from the left that is wrong the least");
        c.officeFault(4, "person a plain coins ^51 x");
        c.officeFault(1, "person a ^kind coins 51;");
        c.officeFault(2, P + "good g worth 1 of ^b x");
        c.officeFault(4, P + "good g worth ^31 of b;");
        c.officeFault(3, P + "good ^a worth 31 of b;");
        c.officeFault(2, PG + "likes ^b h 0;");
        c.officeFault(2, PG + "likes a ^h 0;");
        c.officeFault(3, "seed 1; ^seed x");
        c.officeFault(1, "seed 1 ^seed 12345");
        c.officeFault(5, "fits ((((( ^1 x");
        SoulRaffle x = c.open(PG);
        c.edge(4, "of the first token from the left that is wrong the least");
        c.yearFault(x, 2, "buy ^z z");
        c.yearFault(x, 2, "swap ^z z;");
        c.yearFault(x, 3, "swap g ^g g");
    }

    /** Tokens that are wrong in more ways than one. */
    private void leastOfKinds() {
        c.edge(3, "that is wrong the least: 1 it is none, or can't stand there");
        c.officeFault(1, "fits ((((( ^)");
        c.officeFault(1, "fits not not not not not ^and");
        c.officeFault(1, "fits not not not not not ^12345;");
        c.officeFault(1, "fits not not not not not ^");
        c.officeFault(1, "person a plain coins ^00051;");
        c.officeFault(1, Checks.persons(6, "plain", 1) + "^persons g");
        c.officeFault(1, Checks.persons(6, "plain", 1) + "good ^person");
        c.officeFault(1, "seed 1; fits ^seed");
        c.edge(4, "that is wrong the least: 1 it is none, or can't stand there");
        SoulRaffle x = c.open(PG);
        c.yearFault(x, 1, "quarter;".repeat(40) + "^12345");
        c.yearFault(x, 1, "quarter;".repeat(40) + "^g");
        c.yearFault(x, 1, "quarter;".repeat(40) + "^person");
    }

    private void oneTooMany() {
        c.edge(3, "5 one too many: the words person of a seventh, good of a ninth");
        c.officeFault(5, Checks.persons(6, "plain", 1) + "^person");
        c.officeFault(5, Checks.persons(6, "plain", 1) + "^person a plain coins 51;");
        c.officeFault(5, Checks.persons(6, "plain", 1) + "^person person");
        c.officeFault(5, P + Checks.goods(8, 1, "a") + "^good");
        c.officeFault(5, P + Checks.goods(8, 1, "a") + "^good m worth 31 of z;");
        c.officeFault(5, Checks.persons(6, "plain", 1) + Checks.goods(8, 1, "a") + "^person g");
        c.officeFault(5, Checks.persons(6, "plain", 1) + Checks.goods(8, 1, "a") + "^good u");
        c.open(Checks.persons(6, "plain", 1) + Checks.goods(8, 1, "a") + "likes a m 1; seed 1; fits 1;");
        c.edge(4, "the first word of a 41st line of a YEAR");
        SoulRaffle x = c.open(PG);
        c.yearFault(x, 5, "buy a;".repeat(40) + "^quarter");
        c.yearFault(x, 5, "buy a;".repeat(40) + "^buy z;");
        c.yearFault(x, 5, "buy a;".repeat(40) + "^swap g g;");
        c.is("forty", Checks.year(x, "buy a;".repeat(40)), 0);
    }

    // ---- what comes of it ----

    /** An OFFICE in which all that can be is done. */
    private SoulRaffle busy() {
        SoulRaffle x = c.open("person a plain coins 5; good g worth 3 of a; good h worth 3 of a; seed 3; fits 7;");
        c.is("year()", Checks.year(x, "buy a; quarter;"), 0);
        x.buy(0);
        x.quarter();
        x.see(0, 1, true);
        for (int mark = 0; mark < 4; mark++) {
            c.is("mark", x.mark(mark, false), true);
        }
        c.row("count", x::count, 1, 2, 1, 2, 1, 5, 7, 2, 1, 2, 0);
        return x;
    }

    private void fromThenOn() {
        c.edge(3, "quarter 0, all GOODS in the OFFICE, no tickets, no YEAR, nothing SEEN, nothing can be undone, no MARK is there.");
        SoulRaffle x = busy();
        c.is("office()", Checks.office(x, "person b mate coins 4; good h worth 2 of b; good k worth 1 of b;"), 0);
        c.is("the quarter", x.count(2), 0);
        c.is("GOODS in the OFFICE", x.count(3), 3);
        c.is("holder of h", x.good(0, 2), -1);
        c.is("tickets", x.count(4), 0);
        c.is("shillings as told", x.count(5), 4);
        c.is("the YEAR", x.count(7), 0);
        c.row("judged", x::judged, -1, -1, 0);
        c.is("SEEN", x.count(8), 0);
        c.is("who", x.who(), 1);
        c.is("what can be undone", x.count(9), 0);
        c.is("undo", x.undo(), false);
        c.row("MARKS", mark -> x.mark(mark, true) ? 1 : 0, 0, 0, 0, 0);
        c.is("fits are those without fits", x.fit(0, 0), 2);
        SoulRaffle y = busy();
        c.is("an empty one, too", y.office(), 0);
        c.row("count", y::count, 0, 0, 0, 0, 0, 0, 0, 0, 0, 0, 0);
        c.is("undo", y.undo(), false);
        c.row("MARKS", mark -> y.mark(mark, true) ? 1 : 0, 0, 0, 0, 0);
        SoulRaffle z = c.open(Checks.persons(2, "plain", 5) + Checks.goods(8, 1, "a") + "seed 77;");
        c.is("g of the one ahead is not kept", Checks.office(z, Checks.persons(2, "plain", 5) + Checks.goods(8, 1, "a")), 0);
        z.buy(0);
        z.buy(1);
        long g = 0;
        for (int i = 1; i <= 8; i++) {
            g = Checks.next(g);
            c.is("winner(" + i + ")", z.winner(i), Checks.drawn(g, 2));
        }
    }

    /** All that can be asked of an OFFICE, as one row. */
    private static int[] asked(SoulRaffle x) {
        List<Integer> row = new ArrayList<>();
        for (int p = 0; p < 6; p++) {
            row.add(x.buy(p));
        }
        for (int what = 0; what <= 9; what++) {
            row.add(x.count(what));
            row.add(x.judged(what));
            row.add(x.offers(what));
            row.add(x.luck(7, 30, what));
            row.add(x.best(what - 2));
        }
        for (int p = 0; p <= 8; p++) {
            for (int i = 0; i <= 3; i += 3) {
                Collections.addAll(row, x.person(p, i), x.good(p, i), x.fit(p, i), x.has(p, i), x.where(p, i), x.won(p, i),
                    x.streak(p, i), x.odds(p, i), x.enough(p, 10 * i));
            }
            Collections.addAll(row, x.moves(p), x.joy(p), x.envy(p), x.want(p), x.fans(p), x.gets(p), x.owes(p), x.run(p), x.lack(p),
                x.winner(p));
        }
        Collections.addAll(row, x.home(), x.empty(), x.least(), x.rights(), x.dull(), x.rounds(), x.best(-1), x.spare(), x.who(),
            x.ask(), x.rich(), x.sad(), x.debt(), x.poor());
        return row.stream().mapToInt(i -> i).toArray();
    }

    /** What OFFICES ahead told, with a FAULT or without, is not left over. */
    private void nothingIsLeftOver() {
        c.edge(3, "Without a FAULT an OFFICE is the OFFICE from then on");
        StringBuilder goods = new StringBuilder();
        for (int i = 0; i < 8; i++) {
            goods.append("good ").append((char) ('m' + i)).append(" worth ").append(30 - 3 * i).append(" of f;");
        }
        String most = Checks.persons(6, "mate", 50) + goods + "likes a m 20; likes b n 20; likes a n 3;"
            + "likes f t 9; seed 77; fits price + like + 40;";
        String[] few = {"", "seed 3;", Checks.persons(1, "plain", 1), P, PG, PG + "good h worth 2 of a;",
            Checks.persons(2, "proud", 3) + Checks.goods(2, 1, "b"), Checks.persons(3, "meek", 0) + Checks.goods(1, 1, "c"),
            Checks.persons(5, "plain", 2) + Checks.goods(7, 1, "a"), Checks.persons(2, "plain", 9) + Checks.goods(8, 0, "b")};
        for (String text : few) {
            int[] due = asked(c.open(text));
            for (int times = 1; times <= 3; times++) {
                SoulRaffle x = new SoulRaffle();
                for (int i = 0; i < times; i++) {
                    tellMore(x, most);
                }
                c.is("an OFFICE of few", Checks.office(x, text), 0);
                c.is("as of a new object: '" + text + "'", Arrays.equals(asked(x), due), true);
            }
            SoulRaffle y = new SoulRaffle();
            tellMore(y, most);
            c.is("one with a FAULT", Checks.office(y, most + "x") > 0, true);
            c.is("an OFFICE of few", Checks.office(y, text), 0);
            c.is("as of a new object, behind a FAULT: '" + text + "'", Arrays.equals(asked(y), due), true);
        }
    }

    private void tellMore(SoulRaffle x, String most) {
        c.is("one that told more", Checks.office(x, most), 0);
        x.buy(5);
        x.buy(0);
        x.quarter();
        x.see(0, 99, true);
        x.best(-1);
        x.gets(5);
    }

    private void allStays() {
        c.edge(3, "0, or its FAULT (all stays then).");
        String ahead = "person b mate coins 4; good k worth 20 of b; good l worth 1 of b; likes b k 20; seed 5; fits 9;";
        for (String end : new String[] {"x", "seed 6;", "person b plain coins 1;", "good k", "likes b z", "person d plain coins 51;"}) {
            SoulRaffle x = busy();
            c.is("a FAULT", Checks.office(x, ahead + end) > 0, true);
            c.row("count", x::count, 1, 2, 1, 2, 1, 5, 7, 2, 1, 2, 0);
            c.is("fit", x.fit(0, 0), 7);
            c.is("worth", x.good(0, 0), 3);
            c.is("kind", x.person(0, 0), 0);
            c.row("judged", x::judged, -1, 1, 1);
            c.row("MARKS", mark -> x.mark(mark, true) ? 1 : 0, 1, 1, 1, 1, 0);
            c.is("a YEAR of the OFFICE as told", Checks.year(x, "buy a; swap g h;"), 0);
        }
        SoulRaffle y = busy();
        c.is("a FAULT", Checks.office(y, ahead + "x") > 0, true);
        c.is("undo", y.undo(), true);
        c.is("undo", y.undo(), true);
        c.is("undo", y.undo(), false);
        c.edge(4, "The TAPE is read as a YEAR, likewise.");
        SoulRaffle z = busy();
        c.is("a FAULT", Checks.year(z, "buy a; buy a; buy"), 1 + 16 * 17);
        c.row("count", z::count, 1, 2, 1, 2, 1, 5, 7, 2, 1, 2, 0);
        c.row("judged", z::judged, -1, 1, 1);
    }

    private void aYearIsTheYear() {
        c.edge(4, "A YEAR is the YEAR.");
        SoulRaffle x = busy();
        c.is("another", Checks.year(x, "bring g; bring h; buy a; quarter; quarter;"), 0);
        c.row("count", x::count, 1, 2, 1, 2, 1, 5, 7, 5, 1, 2, 0);
        c.row("judged", x::judged, 0, 3, 2);
        c.is("an empty one", x.year(), 0);
        c.row("count", x::count, 1, 2, 1, 2, 1, 5, 7, 0, 1, 2, 0);
        c.row("judged", x::judged, -1, -1, 0);
        c.row("MARKS", mark -> x.mark(mark, true) ? 1 : 0, 1, 1, 1, 1);
    }
}
