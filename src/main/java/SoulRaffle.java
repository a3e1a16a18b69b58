import java.util.NoSuchElementException;

/** A lottery of lost property of the soul, as ../shared/DOC.md tells it. */
public final class SoulRaffle {
    /** None. */
    public static final int NONE = -1;

    /** The answer for wrong arguments where NONE is an answer of its own. */
    private static final int OTHERS = -2;

    private static final int PERSONS_MOST = 6;
    private static final int GOODS_MOST = 8;
    private static final int TAPE_MOST = 1000;
    private static final int WORD_MOST = 8;
    private static final int NUMBER_MOST = 4;
    private static final int LINES_MOST = 40;
    private static final int COINS_MOST = 50;
    private static final int WORTH_MOST = 30;
    private static final int LIKE_MOST = 20;
    private static final int SEED_MOST = 9999;
    private static final int TICKETS_MOST = 9;
    private static final int FIT_MOST = 99;
    private static final int PROUD_LEAST = 5;
    private static final int WITHIN_MOST = 4;
    private static final int UNDO_MOST = 16;
    private static final int SEEN_MOST = 8;
    private static final int MARKS = 4;
    private static final int FORESEEN_MOST = 60;
    private static final int ODDS_MOST = 6;
    private static final int BARGAIN_MOST = 9;
    private static final int MILLION = 1000000;

    private static final int PLAIN = 0;
    private static final int PROUD = 1;
    private static final int MEEK = 2;
    private static final int MATE = 3;

    private static final int CANT_STAND = 1;
    private static final int NOT_TOLD = 2;
    private static final int TOLD_ALREADY = 3;
    private static final int WRONG_NUMBER = 4;
    private static final int TOO_MANY = 5;

    private static final String SIGNS = "()<=+-*;";
    private static final Word[] WORDS = Word.values();

    private final Tokens tokens;
    private Office told;
    private Office spareOffice;
    private Year toldYear;
    private Year spareYear;
    private final Standing now;
    private final Standing trial;
    private final Seen seen;
    private final Standing[] past;
    private int newest;
    private int undoable;
    private final Standing[] markStandings;
    private final Seen[] markSeens;
    private final boolean[] markLaid;
    private final Rings rings;
    private final Gifts gifts;

    public SoulRaffle() {
        tokens = new Tokens();
        told = new Office();
        spareOffice = new Office();
        toldYear = new Year();
        spareYear = new Year();
        now = new Standing();
        trial = new Standing();
        seen = new Seen();
        past = new Standing[UNDO_MOST];
        for (int i = 0; i < past.length; i++) {
            past[i] = new Standing();
        }
        markStandings = new Standing[MARKS];
        markSeens = new Seen[MARKS];
        markLaid = new boolean[MARKS];
        for (int i = 0; i < markStandings.length && i < markSeens.length; i++) {
            markStandings[i] = new Standing();
            markSeens[i] = new Seen();
        }
        rings = new Rings();
        gifts = new Gifts();
    }

    // ---- the tape ----

    public int feed(long a, long b, long c) {
        tokens.takeBytes(a);
        tokens.takeBytes(b);
        tokens.takeBytes(c);
        return tokens.signs;
    }

    public int office() {
        tokens.split();
        int fault = spareOffice.readLines(tokens);
        if (fault != 0) {
            return fault;
        }
        Office before = told;
        told = spareOffice;
        spareOffice = before;
        openOffice();
        return 0;
    }

    private void openOffice() {
        now.startOf(told);
        toldYear.lines = 0;
        seen.size = 0;
        undoable = 0;
        for (int i = 0; i < markLaid.length; i++) {
            markLaid[i] = false;
        }
        gifts.known = false;
    }

    public int year() {
        tokens.split();
        int fault = spareYear.readLines(tokens, told);
        if (fault != 0) {
            return fault;
        }
        Year before = toldYear;
        toldYear = spareYear;
        spareYear = before;
        return 0;
    }

    // ---- what is told, and how it stands ----

    public int person(int person, int what) {
        if (!told.hasPerson(person)) {
            return NONE;
        }
        switch (what) {
            case 0:
                return told.kindOf(person);
            case 1:
                return now.shillingsOf(person);
            case 2:
                return now.ticketsOf(person);
            case 3:
                return now.bitsOf(person);
            default:
                return NONE;
        }
    }

    public int good(int good, int what) {
        if (!told.hasGood(good)) {
            return OTHERS;
        }
        switch (what) {
            case 0:
                return told.worthOf(good);
            case 1:
                return told.ownerOf(good);
            case 2:
                return now.holderOf(good);
            default:
                return OTHERS;
        }
    }

    public int fit(int person, int good) {
        if (!told.hasPerson(person) || !told.hasGood(good)) {
            return NONE;
        }
        return now.fitOf(told, person, good);
    }

    // ---- what is done by hand ----

    public int buy(int person) {
        if (!told.hasPerson(person) || !now.canBuy(person)) {
            return NONE;
        }
        remember();
        now.takeTicket(person);
        return now.ticketsOf(person);
    }

    public boolean swap(int good, int other) {
        if (!told.hasGood(good) || !told.hasGood(other) || !now.canTrade(told, good, other)) {
            return false;
        }
        remember();
        now.trade(good, other);
        return true;
    }

    public int bring(int good) {
        if (!told.hasGood(good) || now.holderOf(good) == NONE) {
            return NONE;
        }
        remember();
        int holder = now.holderOf(good);
        now.place(good, NONE);
        return holder;
    }

    public int quarter() {
        remember();
        return now.passQuarter(told);
    }

    private void remember() {
        int next = newest + 1 < past.length ? newest + 1 : 0;
        Standing kept = next >= 0 && next < past.length ? past[next] : null;
        if (kept != null) {
            kept.copyOf(now);
            newest = next;
            undoable = Math.min(undoable + 1, past.length);
        }
    }

    public boolean undo() {
        if (undoable <= 0 || newest < 0 || newest >= past.length) {
            return false;
        }
        Standing kept = past[newest];
        if (kept == null) {
            return false;
        }
        now.copyOf(kept);
        newest = newest > 0 ? newest - 1 : past.length - 1;
        undoable--;
        return true;
    }

    public int judged(int what) {
        if (what < 0 || what > 2) {
            return OTHERS;
        }
        trial.startOf(told);
        int cant = NONE;
        int home = NONE;
        for (int line = 0; line < toldYear.lines; line++) {
            if (!toldYear.doLine(line, told, trial) && cant == NONE) {
                cant = line;
            }
            if (home == NONE && trial.rightBits(told) != 0) {
                home = line;
            }
        }
        if (what == 0) {
            return cant;
        }
        return what == 1 ? home : Integer.bitCount(trial.rightBits(told));
    }

    // ---- quarters going by ----

    public int winner(int quarters) {
        if (quarters < 1 || quarters > FORESEEN_MOST) {
            return NONE;
        }
        trial.copyOf(now);
        int wins = NONE;
        for (int i = 0; i < quarters; i++) {
            wins = trial.passQuarter(told);
        }
        return wins;
    }

    public int where(int good, int quarters) {
        if (!told.hasGood(good) || quarters < 0 || quarters > FORESEEN_MOST) {
            return OTHERS;
        }
        trial.copyOf(now);
        for (int i = 0; i < quarters; i++) {
            trial.passQuarter(told);
        }
        return trial.holderOf(good);
    }

    public int has(int person, int good) {
        if (!told.hasPerson(person) || !told.hasGood(good)) {
            return NONE;
        }
        trial.copyOf(now);
        for (int i = 0; i <= FORESEEN_MOST; i++) {
            if (trial.holderOf(good) == person) {
                return i;
            }
            trial.passQuarter(told);
        }
        return NONE;
    }

    public int home() {
        trial.copyOf(now);
        for (int i = 0; i <= FORESEEN_MOST; i++) {
            if (trial.rightBits(told) == told.allGoods()) {
                return i;
            }
            trial.passQuarter(told);
        }
        return NONE;
    }

    public int empty() {
        trial.copyOf(now);
        for (int i = 0; i <= FORESEEN_MOST; i++) {
            if (trial.heldBits(told) == told.allGoods()) {
                return i;
            }
            trial.passQuarter(told);
        }
        return NONE;
    }

    public int won(int person, int quarters) {
        if (!told.hasPerson(person) || quarters < 1 || quarters > FORESEEN_MOST) {
            return NONE;
        }
        trial.copyOf(now);
        int wins = 0;
        for (int i = 0; i < quarters; i++) {
            if (trial.passQuarter(told) == person) {
                wins++;
            }
        }
        return wins;
    }

    public int streak(int person, int quarters) {
        if (!told.hasPerson(person) || quarters < 1 || quarters > FORESEEN_MOST) {
            return NONE;
        }
        trial.copyOf(now);
        int most = 0;
        int length = 0;
        for (int i = 0; i < quarters; i++) {
            int wins = trial.passQuarter(told);
            if (wins != NONE) {
                length = wins == person ? length + 1 : 0;
                most = Math.max(most, length);
            }
        }
        return most;
    }

    public int moves(int good) {
        if (!told.hasGood(good)) {
            return NONE;
        }
        trial.copyOf(now);
        for (int i = 1; i <= FORESEEN_MOST; i++) {
            trial.passQuarter(told);
            if (trial.holderOf(good) != now.holderOf(good)) {
                return i;
            }
        }
        return NONE;
    }

    // ---- what a thing is to whom ----

    public int least() {
        int least = NONE;
        int leastFit = 0;
        for (int good = 0; good < told.goods; good++) {
            int together = 0;
            for (int person = 0; person < told.persons; person++) {
                together += now.fitOf(told, person, good);
            }
            if (least == NONE || together < leastFit) {
                least = good;
                leastFit = together;
            }
        }
        return least;
    }

    public int rights() {
        return now.rightBits(told);
    }

    public int joy(int person) {
        return told.hasPerson(person) ? now.joyOf(told, person) : NONE;
    }

    public int envy(int person) {
        if (!told.hasPerson(person)) {
            return NONE;
        }
        int own = now.fitOfAll(told, person, person);
        int bits = 0;
        for (int other = 0; other < told.persons; other++) {
            if (now.fitOfAll(told, person, other) > own) {
                bits |= 1 << other;
            }
        }
        return bits;
    }

    public int offers(int what) {
        if (what != 0 && what != 1) {
            return NONE;
        }
        int found = 0;
        int first = NONE;
        for (int good = 0; good < told.goods; good++) {
            for (int other = good + 1; other < told.goods; other++) {
                if (now.canTrade(told, good, other)) {
                    first = found == 0 ? GOODS_MOST * good + other : first;
                    found++;
                }
            }
        }
        return what == 0 ? found : first;
    }

    public int want(int person) {
        if (!told.hasPerson(person)) {
            return NONE;
        }
        int wanted = NONE;
        int most = NONE;
        for (int good = 0; good < told.goods; good++) {
            int fits = now.fitOf(told, person, good);
            if (fits > most) {
                wanted = good;
                most = fits;
            }
        }
        return wanted;
    }

    public int fans(int good) {
        return told.hasGood(good) ? fanBits(good) : NONE;
    }

    public int dull() {
        int bits = 0;
        for (int good = 0; good < told.goods; good++) {
            if (fanBits(good) == 0) {
                bits |= 1 << good;
            }
        }
        return bits;
    }

    private int fanBits(int good) {
        int bits = 0;
        for (int person = 0; person < told.persons; person++) {
            if (isFan(person, good)) {
                bits |= 1 << person;
            }
        }
        return bits;
    }

    private boolean isFan(int person, int good) {
        int fits = now.fitOf(told, person, good);
        for (int other = 0; other < told.goods; other++) {
            if (now.fitOf(told, person, other) > fits) {
                return false;
            }
        }
        return true;
    }

    // ---- rings, and the best that could be given out ----

    public int gets(int person) {
        if (!told.hasPerson(person)) {
            return NONE;
        }
        rings.trade(told, now);
        return rings.gotBy(person);
    }

    public int rounds() {
        rings.trade(told, now);
        return rings.passed;
    }

    public int best(int what) {
        if (what != NONE && !told.hasPerson(what)) {
            return OTHERS;
        }
        gifts.giveOut(told);
        return what == NONE ? gifts.total : gifts.givenTo(what);
    }

    public int owes(int person) {
        if (!told.hasPerson(person)) {
            return NONE;
        }
        gifts.giveOut(told);
        int given = gifts.givenTo(person);
        int own = given == NONE ? 0 : told.fitBy(person, given, 0);
        return gifts.mostWithout(told, person) - (gifts.total - own);
    }

    public int spare() {
        gifts.giveOut(told);
        int bits = told.allGoods();
        for (int person = 0; person < told.persons; person++) {
            int given = gifts.givenTo(person);
            if (given != NONE) {
                bits &= ~(1 << given);
            }
        }
        return bits;
    }

    // ---- chances ----

    public int odds(int person, int quarters) {
        long all = now.allTickets();
        if (!told.hasPerson(person) || quarters < 1 || quarters > ODDS_MOST || all <= 0) {
            return NONE;
        }
        long others = all - now.ticketsOf(person);
        long ways = 1;
        long lost = 1;
        for (int i = 0; i < quarters; i++) {
            ways *= all;
            lost *= others;
        }
        return ways > 0 ? (int) ((ways - lost) * MILLION / ways) : NONE;
    }

    public int enough(int person, int percent) {
        if (!told.hasPerson(person) || percent < 1 || percent > 99) {
            return NONE;
        }
        int others = now.allTickets() - now.ticketsOf(person);
        // with no ticket nobody wins, even where there are no others
        for (int tickets = 1; tickets <= 99; tickets++) {
            if (100 * tickets >= percent * (tickets + others)) {
                return tickets;
            }
        }
        return NONE;
    }

    public int run(int person) {
        if (!told.hasPerson(person) || now.ticketsOf(person) <= 0) {
            return NONE;
        }
        long all = now.allTickets();
        long others = all - now.ticketsOf(person);
        long left = MILLION;
        for (int i = 1; i <= 99 && all > 0; i++) {
            left = left * others / all;
            if (left <= MILLION / 2) {
                return i;
            }
        }
        return NONE;
    }

    // ---- whose it was ----

    public boolean see(int good, int much, boolean so) {
        if (!told.hasGood(good) || much < 0 || much > FIT_MOST) {
            return false;
        }
        return seen.add(good, much, so);
    }

    public int who() {
        return seen.whoBits(told);
    }

    public int ask() {
        int who = seen.whoBits(told);
        int least = Integer.bitCount(who);
        int answer = NONE;
        for (int good = 0; good < told.goods; good++) {
            for (int number = 1; number <= FIT_MOST; number++) {
                int left = leftByAsking(who, good, number);
                if (left < least) {
                    least = left;
                    answer = 100 * good + number;
                }
            }
        }
        return answer;
    }

    private int leftByAsking(int who, int good, int number) {
        int so = 0;
        for (int person = 0; person < told.persons; person++) {
            if ((who >> person & 1) == 1 && told.fitBy(person, good, 0) >= number) {
                so++;
            }
        }
        return Math.max(so, Integer.bitCount(who) - so);
    }

    // ---- who is rich, sad, without ----

    public int rich() {
        int rich = NONE;
        int most = NONE;
        for (int person = 0; person < told.persons; person++) {
            if (now.shillingsOf(person) > most) {
                rich = person;
                most = now.shillingsOf(person);
            }
        }
        return rich;
    }

    public int sad() {
        int sad = NONE;
        int least = 0;
        for (int person = 0; person < told.persons; person++) {
            int joy = now.joyOf(told, person);
            if (sad == NONE || joy < least) {
                sad = person;
                least = joy;
            }
        }
        return sad;
    }

    public int lack(int person) {
        if (!told.hasPerson(person)) {
            return NONE;
        }
        int bits = 0;
        for (int good = 0; good < told.goods; good++) {
            if (told.ownerOf(good) == person && now.holderOf(good) != person) {
                bits |= 1 << good;
            }
        }
        return bits;
    }

    public int debt() {
        return Integer.bitCount(now.heldBits(told) & ~now.rightBits(told));
    }

    public int poor() {
        int bits = 0;
        for (int person = 0; person < told.persons; person++) {
            if (now.bitsOf(person) == 0 && now.ticketsOf(person) == 0 && now.shillingsOf(person) == 0) {
                bits |= 1 << person;
            }
        }
        return bits;
    }

    // ---- a bargain, other draws, marks ----

    public int rests(int both, int loses, int gains, int what) throws NoSuchElementException {
        if (!isBargain(both) || !isBargain(loses) || !isBargain(gains) || what < NONE) {
            throw new NoSuchElementException("no such bargain");
        }
        int found = 0;
        for (int choices = 0; choices < 4; choices++) {
            if (isRest(both, loses, gains, choices)) {
                if (found == what) {
                    return choices;
                }
                found++;
            }
        }
        if (what != NONE) {
            throw new NoSuchElementException("no such rest");
        }
        return found;
    }

    private static boolean isBargain(int much) {
        return much >= 0 && much <= BARGAIN_MOST;
    }

    private static boolean isRest(int both, int loses, int gains, int choices) {
        int first = choices >> 1;
        int other = choices & 1;
        return bargained(both, loses, gains, 1 - first, other) <= bargained(both, loses, gains, first, other)
            && bargained(both, loses, gains, 1 - other, first) <= bargained(both, loses, gains, other, first);
    }

    private static int bargained(int both, int loses, int gains, int own, int others) {
        if (own == 1) {
            return others == 1 ? both : -loses;
        }
        return others == 1 ? gains : 0;
    }

    public int luck(int seed, int quarters, int what) {
        if (seed < 0 || seed > SEED_MOST || quarters < 1 || quarters > 99 || what < 0 || what > 2) {
            return NONE;
        }
        trial.copyOf(now);
        trial.drawn = seed;
        int wins = 0;
        for (int i = 0; i < quarters; i++) {
            trial.tryLuck(told);
            if (trial.passQuarter(told) != NONE) {
                wins++;
            }
        }
        if (what == 0) {
            return wins;
        }
        return what == 1 ? trial.rightBits(told) : trial.joyOfAll(told);
    }

    public boolean mark(int mark, boolean back) {
        if (mark < 0 || mark >= markLaid.length || mark >= markStandings.length || mark >= markSeens.length) {
            return false;
        }
        Standing standing = markStandings[mark];
        Seen sight = markSeens[mark];
        if (standing == null || sight == null || (back && !markLaid[mark])) {
            return false;
        }
        if (back) {
            now.copyOf(standing);
            seen.copyOf(sight);
            undoable = 0;
        } else {
            standing.copyOf(now);
            sight.copyOf(seen);
            markLaid[mark] = true;
        }
        return true;
    }

    public int count(int what) {
        switch (what) {
            case 0:
                return told.persons;
            case 1:
                return told.goods;
            case 2:
                return now.quarters;
            case 3:
                return told.allGoods() & ~now.heldBits(told);
            case 4:
                return now.allTickets();
            case 5:
                return now.allShillings();
            case 6:
                return now.joyOfAll(told);
            case 7:
                return toldYear.lines;
            case 8:
                return seen.size;
            case 9:
                return undoable;
            case 10:
                return tokens.signs;
            default:
                return NONE;
        }
    }

    // ---- small helpers for all ----

    private static int at(int[] row, int index) {
        return index >= 0 && index < row.length ? row[index] : 0;
    }

    private static void put(int[] row, int index, int value) {
        if (index >= 0 && index < row.length) {
            row[index] = value;
        }
    }

    private static void copy(int[] from, int[] to) {
        for (int i = 0; i < from.length && i < to.length; i++) {
            to[i] = from[i];
        }
    }

    private static int sum(int[] row) {
        int sum = 0;
        for (int value : row) {
            sum += value;
        }
        return sum;
    }

    private static int indexOf(long[] names, int size, long name) {
        for (int i = 0; i < size && i < names.length; i++) {
            if (names[i] == name) {
                return i;
            }
        }
        return NONE;
    }

    /** A word of up to eight letters as one number, so that no text need be made. */
    private static long spell(long letters, char letter) {
        return letters * 27 + (letter - 'a' + 1);
    }

    private enum Word {
        PERSON("person", true), COINS("coins", true), GOOD("good", true), WORTH("worth", true),
        OF("of", true), LIKES("likes", true), SEED("seed", true), FITS("fits", true),
        QUARTER("quarter", true), BUY("buy", true), SWAP("swap", true), BRING("bring", true),
        PLAIN("plain", true), PROUD("proud", true), MEEK("meek", true), MATE("mate", true),
        NOT("not", true), AND("and", true), OR("or", true),
        PRICE("price", false), MINE("mine", false), LIKE("like", false), OTHERS("others", false);

        final long letters;
        final boolean reserved;

        Word(String text, boolean reserved) {
            long spelt = 0;
            for (int i = 0; i < text.length(); i++) {
                spelt = spell(spelt, text.charAt(i));
            }
            this.letters = spelt;
            this.reserved = reserved;
        }
    }

    /** The TAPE, and the TOKENS of the text that was taken from it last. */
    private static final class Tokens {
        private static final int END = 0;
        private static final int WRONG = 1;
        private static final int WORD = 2;
        private static final int NUMBER = 3;
        private static final int SIGN = 4;

        private final char[] tape = new char[TAPE_MOST];
        private int signs;
        private final int[] kinds = new int[TAPE_MOST + 1];
        private final int[] places = new int[TAPE_MOST + 1];
        private final long[] values = new long[TAPE_MOST + 1];
        private int size;
        private int current;
        /** Of the token that stands here. */
        private int kind;
        private int place;
        private long value;
        private int fault;

        private void takeBytes(long bytes) {
            for (int shift = 56; shift >= 0; shift -= 8) {
                int sign = (int) (bytes >>> shift & 255);
                boolean isText = sign == 10 || (sign >= 32 && sign <= 126);
                if (isText && signs >= 0 && signs < tape.length) {
                    tape[signs] = (char) sign;
                    signs++;
                }
            }
        }

        /** Takes the text off the tape: split at once, for reading asks each token more than once. */
        private void split() {
            size = 0;
            fault = 0;
            int from = 0;
            while (from < signs) {
                char sign = signAt(from);
                boolean isBlank = sign == 10 || sign == 32;
                from = isBlank ? from + 1 : Math.max(scan(from), from + 1);
            }
            add(END, signs, 0);
            signs = 0;
            current = -1;
            step();
        }

        /** Where the token that begins here ends. */
        private int scan(int from) {
            char sign = signAt(from);
            if (isLetter(sign)) {
                return scanWord(from);
            }
            if (isDigit(sign)) {
                return scanNumber(from);
            }
            add(SIGNS.indexOf(sign) >= 0 ? SIGN : WRONG, from, sign);
            return from + 1;
        }

        private int scanWord(int from) {
            int end = from;
            long letters = 0;
            while (end < signs && isLetter(signAt(end))) {
                letters = spell(letters, signAt(end));
                end++;
            }
            add(end - from <= WORD_MOST ? WORD : WRONG, from, letters);
            return end;
        }

        private int scanNumber(int from) {
            int end = from;
            long number = 0;
            while (end < signs && isDigit(signAt(end))) {
                number = number * 10 + (signAt(end) - '0');
                end++;
            }
            add(end - from <= NUMBER_MOST ? NUMBER : WRONG, from, number);
            return end;
        }

        private void add(int tokenKind, int tokenPlace, long tokenValue) {
            if (size >= 0 && size < kinds.length && size < places.length && size < values.length) {
                kinds[size] = tokenKind;
                places[size] = tokenPlace;
                values[size] = tokenValue;
                size++;
            }
        }

        private char signAt(int index) {
            return index >= 0 && index < tape.length ? tape[index] : 0;
        }

        private static boolean isLetter(char sign) {
            return sign >= 'a' && sign <= 'z';
        }

        private static boolean isDigit(char sign) {
            return sign >= '0' && sign <= '9';
        }

        /** The end is never left behind. */
        private void step() {
            int next = current + 1;
            if (next >= 0 && next < size && next < kinds.length && next < places.length && next < values.length) {
                current = next;
                kind = kinds[next];
                place = places[next];
                value = values[next];
            }
        }

        private boolean isWord(Word word) {
            return kind == WORD && value == word.letters;
        }

        private boolean isSign(char sign) {
            return kind == SIGN && value == sign;
        }

        private boolean isName() {
            if (kind != WORD) {
                return false;
            }
            for (Word word : WORDS) {
                if (word.reserved && word.letters == value) {
                    return false;
                }
            }
            return true;
        }

        /** Notes the fault of the token that stands here; false, so that readers can hand it on. */
        private boolean fail(int faultKind) {
            fault = faultKind + 16 * place;
            return false;
        }

        private boolean takeWord(Word word) {
            if (!isWord(word)) {
                return fail(CANT_STAND);
            }
            step();
            return true;
        }

        private boolean takeEnd() {
            if (!isSign(';')) {
                return fail(CANT_STAND);
            }
            step();
            return true;
        }

        private int takeNumber(int least, int most) {
            if (kind != NUMBER) {
                fail(CANT_STAND);
                return NONE;
            }
            int number = (int) value;
            if (number < least || number > most) {
                fail(WRONG_NUMBER);
                return NONE;
            }
            step();
            return number;
        }

        /** Which of these NAMES stands here; NONE: no NAME at all, or none of these. */
        private int takeToldName(long[] names, int told) {
            if (!isName()) {
                fail(CANT_STAND);
                return NONE;
            }
            int found = indexOf(names, told, value);
            if (found == NONE) {
                fail(NOT_TOLD);
                return NONE;
            }
            step();
            return found;
        }
    }

    /** The E of fits: its parts in the order in which they are worked out, NUMBERS as they are, all else below 0. */
    private static final class Law {
        private static final int NO_PART = 0;
        private static final int PRICE = -1;
        private static final int MINE = -2;
        private static final int LIKE = -3;
        private static final int OTHER_GOODS = -4;
        private static final int NOT = -5;
        private static final int AND = -6;
        private static final int OR = -7;
        private static final int LESS = -8;
        private static final int EQUAL = -9;
        private static final int PLUS = -10;
        private static final int MINUS = -11;
        private static final int TIMES = -12;

        private static final int JOINED = 0;
        private static final int COMPARED = 1;
        private static final int SUMMED = 2;
        private static final int MULTIPLIED = 3;

        /** Four sums may wait at each of the five depths, and one part more. */
        private static final int STACK_MOST = 32;

        private final int[] parts = new int[TAPE_MOST];
        private int size;
        private final int[] stack = new int[STACK_MOST];
        private int height;

        private void setUsual() {
            size = 0;
            add(PRICE);
            add(LIKE);
            add(PLUS);
        }

        private void add(int part) {
            if (size >= 0 && size < parts.length) {
                parts[size] = part;
                size++;
            }
        }

        private boolean readLevel(Tokens tokens, int level, int within) {
            if (level > MULTIPLIED) {
                return readPart(tokens, within);
            }
            if (!readLevel(tokens, level + 1, within)) {
                return false;
            }
            for (int i = 0; i < TAPE_MOST; i++) {
                int operator = operatorAt(tokens, level);
                if (operator == NO_PART) {
                    return true;
                }
                tokens.step();
                if (!readLevel(tokens, level + 1, within)) {
                    return false;
                }
                add(operator);
                if (level == COMPARED) {
                    return true;
                }
            }
            return true;
        }

        private static int operatorAt(Tokens tokens, int level) {
            switch (level) {
                case JOINED:
                    return tokens.isWord(Word.AND) ? AND : tokens.isWord(Word.OR) ? OR : NO_PART;
                case COMPARED:
                    return tokens.isSign('<') ? LESS : tokens.isSign('=') ? EQUAL : NO_PART;
                case SUMMED:
                    return tokens.isSign('+') ? PLUS : tokens.isSign('-') ? MINUS : NO_PART;
                default:
                    return tokens.isSign('*') ? TIMES : NO_PART;
            }
        }

        private boolean readPart(Tokens tokens, int within) {
            boolean isNumber = tokens.kind == Tokens.NUMBER;
            boolean isNot = tokens.isWord(Word.NOT);
            boolean isOpen = tokens.isSign('(');
            int fact = factAt(tokens);
            if (!isNumber && !isNot && !isOpen && fact == NO_PART) {
                return tokens.fail(CANT_STAND);
            }
            if (within > WITHIN_MOST) {
                return tokens.fail(TOO_MANY);
            }
            if (isNumber || fact != NO_PART) {
                add(isNumber ? (int) tokens.value : fact);
                tokens.step();
                return true;
            }
            tokens.step();
            return isNot ? readNot(tokens, within) : readBrackets(tokens, within);
        }

        private boolean readNot(Tokens tokens, int within) {
            if (!readPart(tokens, within + 1)) {
                return false;
            }
            add(NOT);
            return true;
        }

        private boolean readBrackets(Tokens tokens, int within) {
            if (!readLevel(tokens, JOINED, within + 1)) {
                return false;
            }
            if (!tokens.isSign(')')) {
                return tokens.fail(CANT_STAND);
            }
            tokens.step();
            return true;
        }

        private static int factAt(Tokens tokens) {
            if (tokens.isWord(Word.PRICE)) {
                return PRICE;
            }
            if (tokens.isWord(Word.MINE)) {
                return MINE;
            }
            if (tokens.isWord(Word.LIKE)) {
                return LIKE;
            }
            return tokens.isWord(Word.OTHERS) ? OTHER_GOODS : NO_PART;
        }

        private int work(int price, int mine, int like, int others) {
            height = 0;
            for (int i = 0; i < size && i < parts.length; i++) {
                int part = parts[i];
                switch (part) {
                    case PRICE:
                        push(price);
                        break;
                    case MINE:
                        push(mine);
                        break;
                    case LIKE:
                        push(like);
                        break;
                    case OTHER_GOODS:
                        push(others);
                        break;
                    case NOT:
                        push(pop() == 0 ? 1 : 0);
                        break;
                    default:
                        pushOrJoin(part);
                        break;
                }
            }
            return pop();
        }

        private void pushOrJoin(int part) {
            if (part >= 0) {
                push(part);
                return;
            }
            int right = pop();
            int left = pop();
            push(join(part, left, right));
        }

        private static int join(int operator, int left, int right) {
            switch (operator) {
                case AND:
                    return left != 0 && right != 0 ? 1 : 0;
                case OR:
                    return left != 0 || right != 0 ? 1 : 0;
                case LESS:
                    return left < right ? 1 : 0;
                case EQUAL:
                    return left == right ? 1 : 0;
                case PLUS:
                    return left + right;
                case MINUS:
                    return left - right;
                default:
                    return left * right;
            }
        }

        private void push(int value) {
            if (height >= 0 && height < stack.length) {
                stack[height] = value;
                height++;
            }
        }

        private int pop() {
            if (height <= 0 || height > stack.length) {
                return 0;
            }
            height--;
            return stack[height];
        }
    }

    /** What an OFFICE tells. */
    private static final class Office {
        private int persons;
        private int goods;
        private final long[] personNames = new long[PERSONS_MOST];
        private final long[] goodNames = new long[GOODS_MOST];
        private final int[] kinds = new int[PERSONS_MOST];
        private final int[] coins = new int[PERSONS_MOST];
        private final int[] worths = new int[GOODS_MOST];
        private final int[] owners = new int[GOODS_MOST];
        private final int[] likes = new int[PERSONS_MOST * GOODS_MOST];
        private int seed;
        private boolean seedTold;
        private boolean lawTold;
        private final Law law = new Law();
        /** FIT by PERSON, GOOD, others: all worked out when told, for every question asks it. */
        private final int[] fits = new int[PERSONS_MOST * GOODS_MOST * GOODS_MOST];

        private int readLines(Tokens tokens) {
            clear();
            for (int line = 0; line < TAPE_MOST && tokens.kind != Tokens.END; line++) {
                if (!readLine(tokens)) {
                    return tokens.fault;
                }
            }
            workOutFits();
            return 0;
        }

        private void clear() {
            persons = 0;
            goods = 0;
            for (int i = 0; i < likes.length; i++) {
                likes[i] = 0;
            }
            seed = 0;
            seedTold = false;
            lawTold = false;
            law.setUsual();
        }

        private boolean readLine(Tokens tokens) {
            if (tokens.isWord(Word.PERSON)) {
                return readPerson(tokens);
            }
            if (tokens.isWord(Word.GOOD)) {
                return readGood(tokens);
            }
            if (tokens.isWord(Word.LIKES)) {
                return readLikes(tokens);
            }
            if (tokens.isWord(Word.SEED)) {
                return readSeed(tokens);
            }
            return tokens.isWord(Word.FITS) ? readFits(tokens) : tokens.fail(CANT_STAND);
        }

        private boolean readPerson(Tokens tokens) {
            if (persons >= PERSONS_MOST) {
                return tokens.fail(TOO_MANY);
            }
            tokens.step();
            if (!isNewName(tokens)) {
                return false;
            }
            long name = tokens.value;
            tokens.step();
            int kind = kindAt(tokens);
            if (kind == NONE) {
                return tokens.fail(CANT_STAND);
            }
            tokens.step();
            if (!tokens.takeWord(Word.COINS)) {
                return false;
            }
            int number = tokens.takeNumber(0, COINS_MOST);
            if (number == NONE || !tokens.takeEnd()) {
                return false;
            }
            addPerson(name, kind, number);
            return true;
        }

        private void addPerson(long name, int kind, int shillings) {
            if (persons >= 0 && persons < personNames.length) {
                personNames[persons] = name;
                put(kinds, persons, kind);
                put(coins, persons, shillings);
                persons++;
            }
        }

        private boolean readGood(Tokens tokens) {
            if (goods >= GOODS_MOST) {
                return tokens.fail(TOO_MANY);
            }
            tokens.step();
            if (!isNewName(tokens)) {
                return false;
            }
            long name = tokens.value;
            tokens.step();
            if (!tokens.takeWord(Word.WORTH)) {
                return false;
            }
            int worth = tokens.takeNumber(0, WORTH_MOST);
            if (worth == NONE || !tokens.takeWord(Word.OF)) {
                return false;
            }
            int owner = tokens.takeToldName(personNames, persons);
            if (owner == NONE || !tokens.takeEnd()) {
                return false;
            }
            addGood(name, worth, owner);
            return true;
        }

        private void addGood(long name, int worth, int owner) {
            if (goods >= 0 && goods < goodNames.length) {
                goodNames[goods] = name;
                put(worths, goods, worth);
                put(owners, goods, owner);
                goods++;
            }
        }

        private boolean isNewName(Tokens tokens) {
            if (!tokens.isName()) {
                return tokens.fail(CANT_STAND);
            }
            long name = tokens.value;
            if (indexOf(personNames, persons, name) != NONE || indexOf(goodNames, goods, name) != NONE) {
                return tokens.fail(TOLD_ALREADY);
            }
            return true;
        }

        private static int kindAt(Tokens tokens) {
            if (tokens.isWord(Word.PLAIN)) {
                return PLAIN;
            }
            if (tokens.isWord(Word.PROUD)) {
                return PROUD;
            }
            if (tokens.isWord(Word.MEEK)) {
                return MEEK;
            }
            return tokens.isWord(Word.MATE) ? MATE : NONE;
        }

        private boolean readLikes(Tokens tokens) {
            tokens.step();
            int person = tokens.takeToldName(personNames, persons);
            if (person == NONE) {
                return false;
            }
            int named = tokens.isName() ? indexOf(goodNames, goods, tokens.value) : NONE;
            if (named != NONE && likeOf(person, named) != 0) {
                return tokens.fail(TOLD_ALREADY);
            }
            int good = tokens.takeToldName(goodNames, goods);
            if (good == NONE) {
                return false;
            }
            int number = tokens.takeNumber(1, LIKE_MOST);
            if (number == NONE || !tokens.takeEnd()) {
                return false;
            }
            put(likes, person * GOODS_MOST + good, number);
            return true;
        }

        private boolean readSeed(Tokens tokens) {
            if (seedTold) {
                return tokens.fail(TOLD_ALREADY);
            }
            tokens.step();
            int number = tokens.takeNumber(0, SEED_MOST);
            if (number == NONE || !tokens.takeEnd()) {
                return false;
            }
            seed = number;
            seedTold = true;
            return true;
        }

        private boolean readFits(Tokens tokens) {
            if (lawTold) {
                return tokens.fail(TOLD_ALREADY);
            }
            tokens.step();
            lawTold = true;
            law.size = 0;
            return law.readLevel(tokens, Law.JOINED, 0) && tokens.takeEnd();
        }

        private void workOutFits() {
            for (int person = 0; person < persons; person++) {
                for (int good = 0; good < goods; good++) {
                    for (int others = 0; others < goods; others++) {
                        int mine = ownerOf(good) == person ? 1 : 0;
                        int much = law.work(worthOf(good), mine, likeOf(person, good), others);
                        put(fits, fitIndex(person, good, others), Math.max(0, Math.min(FIT_MOST, much)));
                    }
                }
            }
        }

        private static int fitIndex(int person, int good, int others) {
            return (person * GOODS_MOST + good) * GOODS_MOST + others;
        }

        private int fitBy(int person, int good, int others) {
            return at(fits, fitIndex(person, good, others));
        }

        private int likeOf(int person, int good) {
            return at(likes, person * GOODS_MOST + good);
        }

        private boolean hasPerson(int person) {
            return person >= 0 && person < persons;
        }

        private boolean hasGood(int good) {
            return good >= 0 && good < goods;
        }

        private int kindOf(int person) {
            return at(kinds, person);
        }

        private int worthOf(int good) {
            return at(worths, good);
        }

        private int ownerOf(int good) {
            return at(owners, good);
        }

        private int allGoods() {
            return (1 << goods) - 1;
        }
    }

    /** A YEAR: its lines, each by what is done and the numbers of whom or what it names. */
    private static final class Year {
        private static final int QUARTER = 0;
        private static final int BUY = 1;
        private static final int SWAP = 2;
        private static final int BRING = 3;

        private int lines;
        private final int[] deeds = new int[LINES_MOST];
        private final int[] firsts = new int[LINES_MOST];
        private final int[] seconds = new int[LINES_MOST];

        private int readLines(Tokens tokens, Office office) {
            lines = 0;
            for (int line = 0; line < TAPE_MOST && tokens.kind != Tokens.END; line++) {
                if (!readLine(tokens, office)) {
                    return tokens.fault;
                }
            }
            return 0;
        }

        private boolean readLine(Tokens tokens, Office office) {
            int deed = deedAt(tokens);
            if (deed == NONE) {
                return tokens.fail(CANT_STAND);
            }
            if (lines >= LINES_MOST) {
                return tokens.fail(TOO_MANY);
            }
            tokens.step();
            put(deeds, lines, deed);
            if (!readNames(tokens, office, deed) || !tokens.takeEnd()) {
                return false;
            }
            lines++;
            return true;
        }

        private static int deedAt(Tokens tokens) {
            if (tokens.isWord(Word.QUARTER)) {
                return QUARTER;
            }
            if (tokens.isWord(Word.BUY)) {
                return BUY;
            }
            if (tokens.isWord(Word.SWAP)) {
                return SWAP;
            }
            return tokens.isWord(Word.BRING) ? BRING : NONE;
        }

        private boolean readNames(Tokens tokens, Office office, int deed) {
            if (deed == QUARTER) {
                return true;
            }
            int first = deed == BUY
                ? tokens.takeToldName(office.personNames, office.persons)
                : tokens.takeToldName(office.goodNames, office.goods);
            put(firsts, lines, first);
            if (first == NONE || deed != SWAP) {
                return first != NONE;
            }
            int named = tokens.isName() ? indexOf(office.goodNames, office.goods, tokens.value) : NONE;
            if (named == first) {
                return tokens.fail(TOLD_ALREADY);
            }
            int second = tokens.takeToldName(office.goodNames, office.goods);
            put(seconds, lines, second);
            return second != NONE;
        }

        /** Whether the line can be; it is done then. */
        private boolean doLine(int line, Office office, Standing standing) {
            int first = at(firsts, line);
            int second = at(seconds, line);
            boolean can = true;
            switch (at(deeds, line)) {
                case BUY:
                    can = standing.canBuy(first);
                    if (can) {
                        standing.takeTicket(first);
                    }
                    break;
                case SWAP:
                    can = standing.canTrade(office, first, second);
                    if (can) {
                        standing.trade(first, second);
                    }
                    break;
                case BRING:
                    can = standing.holderOf(first) != NONE;
                    standing.place(first, NONE);
                    break;
                default:
                    standing.passQuarter(office);
                    break;
            }
            return can;
        }
    }

    /** How it stands: all that UNDO brings back. */
    private static final class Standing {
        /** By GOODS; NONE is the OFFICE. */
        private final int[] holders = new int[GOODS_MOST];
        private final int[] shillings = new int[PERSONS_MOST];
        private final int[] tickets = new int[PERSONS_MOST];
        private long drawn;
        private int quarters;

        private Standing() {
            for (int i = 0; i < holders.length; i++) {
                holders[i] = NONE;
            }
        }

        private void startOf(Office office) {
            for (int i = 0; i < holders.length; i++) {
                holders[i] = NONE;
            }
            for (int i = 0; i < PERSONS_MOST; i++) {
                put(tickets, i, 0);
                put(shillings, i, i < office.persons ? at(office.coins, i) : 0);
            }
            drawn = office.seed;
            quarters = 0;
        }

        private void copyOf(Standing other) {
            copy(other.holders, holders);
            copy(other.shillings, shillings);
            copy(other.tickets, tickets);
            drawn = other.drawn;
            quarters = other.quarters;
        }

        private int holderOf(int good) {
            return good >= 0 && good < holders.length ? holders[good] : NONE;
        }

        private void place(int good, int holder) {
            put(holders, good, holder);
        }

        private int shillingsOf(int person) {
            return at(shillings, person);
        }

        private int ticketsOf(int person) {
            return at(tickets, person);
        }

        private int allTickets() {
            return sum(tickets);
        }

        private int allShillings() {
            return sum(shillings);
        }

        private int bitsOf(int person) {
            int bits = 0;
            for (int good = 0; good < holders.length; good++) {
                if (holders[good] == person) {
                    bits |= 1 << good;
                }
            }
            return bits;
        }

        private int firstOf(int person) {
            for (int good = 0; good < holders.length; good++) {
                if (holders[good] == person) {
                    return good;
                }
            }
            return NONE;
        }

        private int heldBits(Office office) {
            return office.allGoods() & ~bitsOf(NONE);
        }

        private int rightBits(Office office) {
            int bits = 0;
            for (int good = 0; good < office.goods; good++) {
                if (holderOf(good) == office.ownerOf(good)) {
                    bits |= 1 << good;
                }
            }
            return bits;
        }

        private int fitOf(Office office, int person, int good) {
            int besides = bitsOf(person) & ~(1 << good);
            return office.fitBy(person, good, Integer.bitCount(besides));
        }

        private int joyOf(Office office, int person) {
            return fitOfAll(office, person, person);
        }

        /** How all that the holder HOLDS FITS the PERSON, as if it were theirs and all they had. */
        private int fitOfAll(Office office, int person, int holder) {
            int bits = bitsOf(holder);
            int others = Integer.bitCount(bits) - 1;
            int together = 0;
            for (int good = 0; good < office.goods; good++) {
                if ((bits >> good & 1) == 1) {
                    together += office.fitBy(person, good, others);
                }
            }
            return together;
        }

        private int joyOfAll(Office office) {
            int together = 0;
            for (int person = 0; person < office.persons; person++) {
                together += joyOf(office, person);
            }
            return together;
        }

        private boolean canBuy(int person) {
            return shillingsOf(person) > 0 && ticketsOf(person) < TICKETS_MOST;
        }

        private void takeTicket(int person) {
            put(shillings, person, shillingsOf(person) - 1);
            put(tickets, person, ticketsOf(person) + 1);
        }

        private boolean canTrade(Office office, int good, int other) {
            int holder = holderOf(good);
            int partner = holderOf(other);
            return holder != NONE && partner != NONE && holder != partner
                && gainsBy(office, holder, good, other) && gainsBy(office, partner, other, good);
        }

        private boolean gainsBy(Office office, int person, int given, int got) {
            int kept = Integer.bitCount(bitsOf(person)) - 1;
            return office.fitBy(person, got, kept) > office.fitBy(person, given, kept);
        }

        private void trade(int good, int other) {
            int holder = holderOf(good);
            place(good, holderOf(other));
            place(other, holder);
        }

        private int draw(int below) {
            drawn = (drawn * 1103515245L + 12345L) % 2147483648L;
            return below > 0 ? (int) (drawn / 65536L % below) : 0;
        }

        /** Who wins; NONE: nobody. */
        private int passQuarter(Office office) {
            int heldAhead = heldBits(office);
            int wins = raffle(office);
            for (int good = 0; good < office.goods; good++) {
                if ((heldAhead >> good & 1) == 1) {
                    settle(office, good);
                }
            }
            for (int person = 0; person < office.persons; person++) {
                put(shillings, person, Math.min(COINS_MOST, shillingsOf(person) + 1));
            }
            quarters++;
            return wins;
        }

        private int raffle(Office office) {
            int all = allTickets();
            for (int good = 0; good < office.goods && all > 0; good++) {
                if (holderOf(good) == NONE) {
                    int wins = holderOfTicket(draw(all));
                    place(good, wins);
                    return wins;
                }
            }
            return NONE;
        }

        private int holderOfTicket(int ticket) {
            int before = 0;
            for (int person = 0; person < tickets.length; person++) {
                before += tickets[person];
                if (ticket < before) {
                    return person;
                }
            }
            return NONE;
        }

        /** What the one who HOLDS a GOOD does with it by their KIND when a quarter ends. */
        private void settle(Office office, int good) {
            int holder = holderOf(good);
            int owner = office.ownerOf(good);
            switch (office.kindOf(holder)) {
                case PROUD:
                    if (fitOf(office, holder, good) < PROUD_LEAST) {
                        place(good, NONE);
                    }
                    break;
                case MEEK:
                    place(good, owner);
                    break;
                case MATE:
                    if (holder != owner) {
                        place(good, NONE);
                    }
                    break;
                default:
                    break;
            }
        }

        /** What LUCK does ahead of a QUARTER. */
        private void tryLuck(Office office) {
            if (office.persons > 0) {
                int person = draw(office.persons);
                if (canBuy(person)) {
                    takeTicket(person);
                }
            }
            if (office.goods > 0) {
                int good = draw(office.goods);
                int other = draw(office.goods);
                if (canTrade(office, good, other)) {
                    trade(good, other);
                }
            }
        }
    }

    /** What is SEEN of the unknown PERSON. */
    private static final class Seen {
        private final int[] goods = new int[SEEN_MOST];
        private final int[] muches = new int[SEEN_MOST];
        private final boolean[] sos = new boolean[SEEN_MOST];
        private int size;

        private boolean add(int good, int much, boolean so) {
            if (size < 0 || size >= sos.length) {
                return false;
            }
            put(goods, size, good);
            put(muches, size, much);
            sos[size] = so;
            size++;
            return true;
        }

        private void copyOf(Seen other) {
            copy(other.goods, goods);
            copy(other.muches, muches);
            for (int i = 0; i < sos.length && i < other.sos.length; i++) {
                sos[i] = other.sos[i];
            }
            size = other.size;
        }

        private int whoBits(Office office) {
            int bits = 0;
            for (int person = 0; person < office.persons; person++) {
                if (allIsSo(office, person)) {
                    bits |= 1 << person;
                }
            }
            return bits;
        }

        private boolean allIsSo(Office office, int person) {
            for (int i = 0; i < size && i < sos.length; i++) {
                boolean enough = office.fitBy(person, at(goods, i), 0) >= at(muches, i);
                if (enough != sos[i]) {
                    return false;
                }
            }
            return true;
        }
    }

    /** RINGS by which all trade at once. */
    private static final class Rings {
        /** The GOOD that each puts in, who put in what each points to, and what each gets; NONE: none. */
        private final int[] puts = new int[PERSONS_MOST];
        private final int[] pointed = new int[PERSONS_MOST];
        private final int[] got = new int[PERSONS_MOST];
        private int passed;

        private void trade(Office office, Standing standing) {
            passed = 0;
            int in = putIn(office, standing);
            for (int round = 0; round < PERSONS_MOST && in != 0; round++) {
                for (int person = 0; person < office.persons; person++) {
                    if ((in >> person & 1) == 1) {
                        put(pointed, person, pointsTo(office, standing, person, in));
                    }
                }
                in &= ~handOut(office, in);
                passed++;
            }
        }

        private int putIn(Office office, Standing standing) {
            int in = 0;
            for (int person = 0; person < office.persons; person++) {
                int good = standing.firstOf(person);
                put(puts, person, good);
                put(got, person, NONE);
                if (good != NONE) {
                    in |= 1 << person;
                }
            }
            return in;
        }

        private int pointsTo(Office office, Standing standing, int person, int in) {
            int kept = Integer.bitCount(standing.bitsOf(person)) - 1;
            int chosen = NONE;
            int most = NONE;
            for (int other = 0; other < office.persons; other++) {
                if ((in >> other & 1) == 1) {
                    int fits = office.fitBy(person, at(puts, other), kept);
                    boolean first = fits == most && at(puts, other) < at(puts, chosen);
                    if (fits > most || first) {
                        chosen = other;
                        most = fits;
                    }
                }
            }
            return chosen;
        }

        /** Gives all of all rings what they point to; who they are, as bits. */
        private int handOut(Office office, int in) {
            int out = 0;
            for (int person = 0; person < office.persons; person++) {
                if ((in >> person & 1) == 1 && comesRound(person)) {
                    put(got, person, at(puts, at(pointed, person)));
                    out |= 1 << person;
                }
            }
            return out;
        }

        private boolean comesRound(int person) {
            int next = person;
            for (int i = 0; i < PERSONS_MOST; i++) {
                next = at(pointed, next);
                if (next == person) {
                    return true;
                }
            }
            return false;
        }

        private int gotBy(int person) {
            return person >= 0 && person < got.length ? got[person] : NONE;
        }
    }

    /** BEST: it hangs on the OFFICE alone, so it is worked out once for each. */
    private static final class Gifts {
        private static final int SETS = 1 << GOODS_MOST;

        private boolean known;
        private int total;
        private final int[] row = new int[PERSONS_MOST];
        /** The most that the PERSONS from one on can have, by that one and the GOODS that are gone. */
        private final int[] mosts = new int[(PERSONS_MOST + 1) * SETS];

        private void giveOut(Office office) {
            if (known) {
                return;
            }
            total = mostWithout(office, NONE);
            int gone = 0;
            for (int person = 0; person < office.persons; person++) {
                int good = firstBest(office, person, gone);
                put(row, person, good);
                gone |= good == NONE ? 0 : 1 << good;
            }
            known = true;
        }

        private int firstBest(Office office, int person, int gone) {
            int most = at(mosts, person * SETS + gone);
            for (int good = 0; good < office.goods; good++) {
                if ((gone >> good & 1) == 0 && mostBy(office, person, gone, good) == most) {
                    return good;
                }
            }
            return NONE;
        }

        private int mostBy(Office office, int person, int gone, int good) {
            return office.fitBy(person, good, 0) + at(mosts, (person + 1) * SETS + (gone | 1 << good));
        }

        private int mostWithout(Office office, int left) {
            for (int gone = 0; gone < SETS; gone++) {
                put(mosts, office.persons * SETS + gone, 0);
            }
            for (int person = office.persons - 1; person >= 0; person--) {
                for (int gone = 0; gone <= office.allGoods(); gone++) {
                    // no more can be gone than there are PERSONS ahead
                    if (Integer.bitCount(gone) <= person) {
                        put(mosts, person * SETS + gone, mostFrom(office, person, gone, person == left));
                    }
                }
            }
            return at(mosts, 0);
        }

        private int mostFrom(Office office, int person, int gone, boolean isLeft) {
            int most = at(mosts, (person + 1) * SETS + gone);
            for (int good = 0; good < office.goods && !isLeft; good++) {
                if ((gone >> good & 1) == 0) {
                    most = Math.max(most, mostBy(office, person, gone, good));
                }
            }
            return most;
        }

        private int givenTo(int person) {
            return person >= 0 && person < row.length ? row[person] : NONE;
        }
    }
}
