import java.util.Arrays;
import java.util.List;

/** Promises 3 and 4: at every place of every line, every token that there is, and the end. */
public final class EdgesOfSlotsTest {
    private static final String AHEAD = "person a plain coins 1;good g worth 1 of a;good h worth 1 of a;";
    private static final List<String> KINDS = List.of("plain", "proud", "meek", "mate");
    private static final List<String> NO_NAMES = List.of("person", "coins", "good", "worth", "of", "likes", "seed", "fits",
        "quarter", "buy", "swap", "bring", "plain", "proud", "meek", "mate", "not", "and", "or");
    private static final List<String> FACTS = List.of("price", "mine", "like", "others");
    private static final String TOKENS = String.join(" ", NO_NAMES) + " " + String.join(" ", FACTS) + " a g h zz abcdefgh abcdefghi"
        + " 0 1 20 21 30 31 50 51 9999 0000 00001 10000 ( ) < = + - * ; . , A _ ~ !";

    /** What may stand at each place: a word itself, or, with a large letter, one of its sort. */
    private static final String[] OFFICE = {"person New Kind coins N0-50 ;", "good New worth N0-30 of Person ;",
        "likes Person Good N1-20 ;", "seed N0-9999 ;"};
    private static final String[] YEAR = {"quarter ;", "buy Person ;", "swap Good Second ;", "bring Good ;"};

    private final Checks c = new Checks();

    public static void main(String[] args) {
        EdgesOfSlotsTest t = new EdgesOfSlotsTest();
        t.c.edge(3, "1 it is none, or can't stand there");
        for (String line : OFFICE) {
            t.everyPlace(line, true);
        }
        t.everyPlaceOfALaw();
        t.c.edge(4, "1 it is none, or can't stand there");
        for (String line : YEAR) {
            t.everyPlace(line, false);
        }
        t.beginsALine();
        t.c.end("EdgesOfSlotsTest");
    }

    private static boolean isName(String token) {
        return token.matches("[a-z]{1,8}") && !NO_NAMES.contains(token);
    }

    private static boolean isNumber(String token) {
        return token.matches("[0-9]{1,4}");
    }

    /** The kind of the FAULT of a token at such a place; 0: it can stand there. */
    private static int kind(String place, String token) {
        switch (place.charAt(0)) {
            case 'N':
                return place.equals("New") ? kindOfNew(token) : kindOfNumber(place.substring(1), token);
            case 'K':
                return KINDS.contains(token) ? 0 : 1;
            case 'P':
                return !isName(token) ? 1 : token.equals("a") ? 0 : 2;
            case 'G':
                return !isName(token) ? 1 : token.equals("g") || token.equals("h") ? 0 : 2;
            case 'S':
                return !isName(token) ? 1 : token.equals("g") ? 3 : token.equals("h") ? 0 : 2;
            default:
                return place.equals(token) ? 0 : 1;
        }
    }

    private static int kindOfNew(String token) {
        return !isName(token) ? 1 : Arrays.asList("a", "g", "h").contains(token) ? 3 : 0;
    }

    private static int kindOfNumber(String range, String token) {
        if (!isNumber(token)) {
            return 1;
        }
        int number = Integer.parseInt(token);
        String[] ends = range.split("-");
        return number < Integer.parseInt(ends[0]) || number > Integer.parseInt(ends[1]) ? 4 : 0;
    }

    /** One that can stand there. */
    private static String right(String place) {
        switch (place.charAt(0)) {
            case 'N':
                return place.equals("New") ? "zz" : place.substring(1, 2).equals("1") ? "1" : "0";
            case 'K':
                return "meek";
            case 'P':
                return "a";
            case 'G':
                return "g";
            case 'S':
                return "h";
            default:
                return place;
        }
    }

    private int read(String text, boolean isOffice) {
        SoulRaffle x = new SoulRaffle();
        if (isOffice) {
            return Checks.office(x, AHEAD + text);
        }
        Checks.office(x, AHEAD);
        return Checks.year(x, text);
    }

    private void everyPlace(String line, boolean isOffice) {
        String[] places = line.split(" ");
        StringBuilder ahead = new StringBuilder();
        int begin = isOffice ? AHEAD.length() : 0;
        for (int i = 0; i < places.length; i++) {
            if (i > 0) {
                everyToken(places, i, ahead.toString(), isOffice);
                c.is("the end behind '" + ahead + "'", read(ahead.toString(), isOffice), 1 + 16 * (begin + ahead.length()));
            }
            ahead.append(right(places[i])).append(' ');
        }
        c.is("the whole line", read(ahead.toString(), isOffice), 0);
    }

    private void everyToken(String[] places, int i, String ahead, boolean isOffice) {
        int place = (isOffice ? AHEAD.length() : 0) + ahead.length();
        for (String token : TOKENS.split(" ")) {
            StringBuilder rest = new StringBuilder();
            for (int j = i + 1; j < places.length; j++) {
                // two GOODS, not the same
                boolean isOther = places[j].equals("Second") && token.equals("h");
                rest.append(' ').append(isOther ? "zz" : right(places[j]));
            }
            int kind = kind(places[i], token);
            boolean isLast = i == places.length - 1;
            int cut = kind != 0 ? kind + 16 * place : isLast ? 0 : 1 + 16 * (place + token.length());
            c.is("'" + ahead + token + "'", read(ahead + token, isOffice), cut);
            int whole = rest.indexOf("zz") >= 0 ? 2 + 16 * (place + token.length() + 1) : 0;
            c.is("'" + ahead + token + rest + "'", read(ahead + token + rest, isOffice), kind != 0 ? kind + 16 * place : whole);
        }
    }

    /** A PART where one is due; an operator, or the end of the line, where none is. */
    private void everyPlaceOfALaw() {
        String[] dues = {"fits ", "fits not ", "fits (", "fits 1 + ", "fits 1 * ", "fits 1 < ", "fits 1 = ", "fits 1 and ", "fits 1 or ",
            "fits (1) - ", "fits 1 - (2 * "};
        for (String ahead : dues) {
            for (String token : TOKENS.split(" ")) {
                boolean can = isNumber(token) || FACTS.contains(token) || token.equals("not") || token.equals("(");
                int place = AHEAD.length() + ahead.length();
                int due = 1 + 16 * (can ? place + token.length() : place);
                c.is("'" + ahead + token + "'", read(ahead + token, true), due);
            }
            c.is("the end behind '" + ahead + "'", read(ahead, true), 1 + 16 * (AHEAD.length() + ahead.length()));
        }
        String[] told = {"fits 1 ", "fits price ", "fits (1) ", "fits not 1 ", "fits 1 + like ", "fits (1 < 2) ", "fits 1 < 2 ",
            "fits (1 ", "fits (1 = 2 "};
        for (String ahead : told) {
            for (String token : TOKENS.split(" ")) {
                boolean isOpen = ahead.startsWith("fits (1 ") && !ahead.contains(")");
                boolean isCompared = ahead.endsWith("< 2 ") || ahead.endsWith("= 2 ");
                boolean can = "and or + - *".contains(token) && !token.equals("a") || "<=".contains(token) && !isCompared
                    || token.equals(")") && isOpen;
                boolean ends = token.equals(";") && !isOpen;
                int place = AHEAD.length() + ahead.length();
                int due = ends ? 0 : 1 + 16 * (can ? place + token.length() : place);
                c.is("'" + ahead + token + "'", read(ahead + token, true), due);
            }
        }
    }

    private void beginsALine() {
        c.edge(3, "1 it is none, or can't stand there");
        List<String> office = List.of("person", "good", "likes", "seed", "fits");
        List<String> year = List.of("quarter", "buy", "swap", "bring");
        for (String token : TOKENS.split(" ")) {
            int place = AHEAD.length();
            c.is("an OFFICE's line that begins with " + token, read(token, true),
                1 + 16 * (office.contains(token) ? place + token.length() : place));
            c.is("a YEAR's line that begins with " + token, read(token, false), 1 + 16 * (year.contains(token) ? token.length() : 0));
            c.is("its second", read("quarter; " + token, false), 1 + 16 * (9 + (year.contains(token) ? token.length() : 0)));
        }
    }
}
