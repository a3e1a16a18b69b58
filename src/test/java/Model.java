import java.math.BigInteger;
import java.util.ArrayDeque;
import java.util.ArrayList;
import java.util.Arrays;
import java.util.HashMap;
import java.util.HashSet;
import java.util.List;
import java.util.Map;
import java.util.NoSuchElementException;
import java.util.Set;
import java.util.regex.Matcher;
import java.util.regex.Pattern;

/**
 * The document once more, told with the library's means and by trying out all there is,
 * so that ModelTest can hold the class against it. It has the public face of SoulRaffle.
 */
final class Model {
    private static final Set<String> RESERVED = new HashSet<>(Arrays.asList(("person coins good worth of likes seed fits"
        + " quarter buy swap bring plain proud meek mate not and or").split(" ")));
    private static final List<String> KINDS = Arrays.asList("plain", "proud", "meek", "mate");
    private static final Pattern TOKEN = Pattern.compile("[a-z]+|[0-9]+|[^ \\n]");

    private interface Expr {
        int of(int price, int mine, int like, int others);
    }

    private static final class Fault extends RuntimeException {
        private static final long serialVersionUID = 1L;
        final int code;

        Fault(int code) {
            super("fault", null, false, false);
            this.code = code;
        }
    }

    private static final class Told {
        final List<String> personNames = new ArrayList<>();
        final List<String> goodNames = new ArrayList<>();
        final List<Integer> kinds = new ArrayList<>();
        final List<Integer> coins = new ArrayList<>();
        final List<Integer> worths = new ArrayList<>();
        final List<Integer> owners = new ArrayList<>();
        final Map<String, Integer> likes = new HashMap<>();
        Integer seed;
        Expr law;

        int persons() {
            return personNames.size();
        }

        int goods() {
            return goodNames.size();
        }

        int fit(int p, int g, int others) {
            int price = worths.get(g);
            int like = likes.getOrDefault(p + " " + g, 0);
            int e = law == null ? price + like : law.of(price, owners.get(g) == p ? 1 : 0, like, others);
            return e < 0 ? 0 : e > 99 ? 99 : e;
        }
    }

    private static final class State {
        int[] holder = new int[0];
        int[] shillings = new int[0];
        int[] tickets = new int[0];
        BigInteger g = BigInteger.ZERO;
        int quarter;

        State twin() {
            State s = new State();
            s.holder = holder.clone();
            s.shillings = shillings.clone();
            s.tickets = tickets.clone();
            s.g = g;
            s.quarter = quarter;
            return s;
        }
    }

    private record Line(String deed, int a, int b) { }

    private record Sight(int good, int much, boolean so) { }

    private record Mark(State state, List<Sight> seen) { }

    private final StringBuilder tape = new StringBuilder();
    private Told told = new Told();
    private State now = new State();
    private List<Line> lines = new ArrayList<>();
    private List<Sight> seen = new ArrayList<>();
    private final ArrayDeque<State> past = new ArrayDeque<>();
    private final Mark[] marks = new Mark[4];

    // ---- reading ----

    private String text;
    private List<int[]> spans;
    private int at;

    public int feed(long a, long b, long c) {
        for (long eight : new long[] {a, b, c}) {
            for (int i = 7; i >= 0; i--) {
                int sign = (int) (eight >> 8 * i) & 0xff;
                if ((sign == 10 || sign > 31 && sign < 127) && tape.length() < 1000) {
                    tape.append((char) sign);
                }
            }
        }
        return tape.length();
    }

    private void lay() {
        text = tape.toString();
        tape.setLength(0);
        spans = new ArrayList<>();
        Matcher m = TOKEN.matcher(text);
        while (m.find()) {
            spans.add(new int[] {m.start(), m.end()});
        }
        at = 0;
    }

    private boolean atEnd() {
        return at >= spans.size();
    }

    private String peek() {
        return atEnd() ? "" : text.substring(spans.get(at)[0], spans.get(at)[1]);
    }

    private Fault fault(int kind) {
        return new Fault(kind + 16 * (atEnd() ? text.length() : spans.get(at)[0]));
    }

    private String word() {
        if (!peek().matches("[a-z]{1,8}")) {
            throw fault(1);
        }
        return peek();
    }

    private void skip(String due) {
        if (!peek().equals(due)) {
            throw fault(1);
        }
        at++;
    }

    private String name() {
        String word = word();
        if (RESERVED.contains(word)) {
            throw fault(1);
        }
        return word;
    }

    private int number(int low, int high) {
        if (!peek().matches("[0-9]{1,4}")) {
            throw fault(1);
        }
        int n = Integer.parseInt(peek());
        if (n < low || n > high) {
            throw fault(4);
        }
        at++;
        return n;
    }

    private int known(List<String> names) {
        int found = names.indexOf(name());
        if (found < 0) {
            throw fault(2);
        }
        return found;
    }

    public int office() {
        lay();
        Told t = new Told();
        try {
            while (!atEnd()) {
                officeLine(t);
            }
        } catch (Fault f) {
            return f.code;
        }
        told = t;
        now = begin();
        lines = new ArrayList<>();
        seen = new ArrayList<>();
        past.clear();
        Arrays.fill(marks, null);
        return 0;
    }

    private State begin() {
        State s = new State();
        s.holder = new int[told.goods()];
        Arrays.fill(s.holder, -1);
        s.shillings = told.coins.stream().mapToInt(i -> i).toArray();
        s.tickets = new int[told.persons()];
        s.g = BigInteger.valueOf(told.seed == null ? 0 : told.seed);
        return s;
    }

    private void officeLine(Told t) {
        String first = peek();
        if (first.equals("person")) {
            if (t.persons() == 6) {
                throw fault(5);
            }
            at++;
            String name = fresh(t);
            if (!KINDS.contains(peek())) {
                throw fault(1);
            }
            int kind = KINDS.indexOf(peek());
            at++;
            skip("coins");
            int coins = number(0, 50);
            skip(";");
            t.personNames.add(name);
            t.kinds.add(kind);
            t.coins.add(coins);
        } else if (first.equals("good")) {
            if (t.goods() == 8) {
                throw fault(5);
            }
            at++;
            String name = fresh(t);
            skip("worth");
            int worth = number(0, 30);
            skip("of");
            int owner = known(t.personNames);
            at++;
            skip(";");
            t.goodNames.add(name);
            t.worths.add(worth);
            t.owners.add(owner);
        } else if (first.equals("likes")) {
            at++;
            int p = known(t.personNames);
            at++;
            int g = known(t.goodNames);
            if (t.likes.containsKey(p + " " + g)) {
                throw fault(3);
            }
            at++;
            int n = number(1, 20);
            skip(";");
            t.likes.put(p + " " + g, n);
        } else if (first.equals("seed")) {
            if (t.seed != null) {
                throw fault(3);
            }
            at++;
            t.seed = number(0, 9999);
            skip(";");
        } else if (first.equals("fits")) {
            if (t.law != null) {
                throw fault(3);
            }
            at++;
            t.law = joined(0);
            skip(";");
        } else {
            throw fault(1);
        }
    }

    private String fresh(Told t) {
        String name = name();
        if (t.personNames.contains(name) || t.goodNames.contains(name)) {
            throw fault(3);
        }
        at++;
        return name;
    }

    private Expr joined(int within) {
        Expr left = test(within);
        while (peek().equals("and") || peek().equals("or")) {
            boolean isAnd = peek().equals("and");
            at++;
            Expr a = left;
            Expr b = test(within);
            left = (p, m, l, o) -> {
                boolean x = a.of(p, m, l, o) != 0;
                boolean y = b.of(p, m, l, o) != 0;
                return (isAnd ? x && y : x || y) ? 1 : 0;
            };
        }
        return left;
    }

    private Expr test(int within) {
        Expr a = sum(within);
        if (peek().equals("<")) {
            at++;
            Expr b = sum(within);
            return (p, m, l, o) -> a.of(p, m, l, o) < b.of(p, m, l, o) ? 1 : 0;
        }
        if (peek().equals("=")) {
            at++;
            Expr b = sum(within);
            return (p, m, l, o) -> a.of(p, m, l, o) == b.of(p, m, l, o) ? 1 : 0;
        }
        return a;
    }

    private Expr sum(int within) {
        Expr left = product(within);
        while (peek().equals("+") || peek().equals("-")) {
            int sign = peek().equals("+") ? 1 : -1;
            at++;
            Expr a = left;
            Expr b = product(within);
            left = (p, m, l, o) -> a.of(p, m, l, o) + sign * b.of(p, m, l, o);
        }
        return left;
    }

    private Expr product(int within) {
        Expr left = part(within);
        while (peek().equals("*")) {
            at++;
            Expr a = left;
            Expr b = part(within);
            left = (p, m, l, o) -> a.of(p, m, l, o) * b.of(p, m, l, o);
        }
        return left;
    }

    private Expr part(int within) {
        String t = peek();
        if (!t.matches("[0-9]{1,4}|price|mine|like|others|not|\\(")) {
            throw fault(1);
        }
        if (within == 5) {
            throw fault(5);
        }
        at++;
        switch (t) {
            case "price":
                return (p, m, l, o) -> p;
            case "mine":
                return (p, m, l, o) -> m;
            case "like":
                return (p, m, l, o) -> l;
            case "others":
                return (p, m, l, o) -> o;
            case "not":
                Expr inner = part(within + 1);
                return (p, m, l, o) -> inner.of(p, m, l, o) == 0 ? 1 : 0;
            case "(":
                Expr e = joined(within + 1);
                skip(")");
                return e;
            default:
                int n = Integer.parseInt(t);
                return (p, m, l, o) -> n;
        }
    }

    public int year() {
        lay();
        List<Line> told2 = new ArrayList<>();
        try {
            while (!atEnd()) {
                told2.add(yearLine(told2.size()));
            }
        } catch (Fault f) {
            return f.code;
        }
        lines = told2;
        return 0;
    }

    private Line yearLine(int ahead) {
        String deed = peek();
        if (!Arrays.asList("quarter", "buy", "swap", "bring").contains(deed)) {
            throw fault(1);
        }
        if (ahead == 40) {
            throw fault(5);
        }
        at++;
        int a = -1;
        int b = -1;
        if (!deed.equals("quarter")) {
            a = known(deed.equals("buy") ? told.personNames : told.goodNames);
            at++;
        }
        if (deed.equals("swap")) {
            b = known(told.goodNames);
            if (a == b) {
                throw fault(3);
            }
            at++;
        }
        skip(";");
        return new Line(deed, a, b);
    }

    // ---- standing ----

    private boolean isP(int p) {
        return p >= 0 && p < told.persons();
    }

    private boolean isG(int g) {
        return g >= 0 && g < told.goods();
    }

    private int held(State s, int p) {
        return (int) Arrays.stream(s.holder).filter(h -> h == p).count();
    }

    private int fitIn(State s, int p, int g) {
        return told.fit(p, g, held(s, p) - (s.holder[g] == p ? 1 : 0));
    }

    private int joyIn(State s, int p) {
        int sum = 0;
        for (int g = 0; g < told.goods(); g++) {
            sum += s.holder[g] == p ? fitIn(s, p, g) : 0;
        }
        return sum;
    }

    private int rightsIn(State s) {
        int bits = 0;
        for (int g = 0; g < told.goods(); g++) {
            bits += s.holder[g] == told.owners.get(g) ? 1 << g : 0;
        }
        return bits;
    }

    private boolean doBuy(State s, int p) {
        if (s.shillings[p] == 0 || s.tickets[p] >= 9) {
            return false;
        }
        s.shillings[p]--;
        s.tickets[p]++;
        return true;
    }

    private boolean better(State s, int p, int got, int given) {
        int keeps = held(s, p) - 1;
        return told.fit(p, got, keeps) > told.fit(p, given, keeps);
    }

    private boolean doSwap(State s, int a, int b) {
        int pa = s.holder[a];
        int pb = s.holder[b];
        if (pa < 0 || pb < 0 || pa == pb || !better(s, pa, b, a) || !better(s, pb, a, b)) {
            return false;
        }
        s.holder[a] = pb;
        s.holder[b] = pa;
        return true;
    }

    private int draw(State s, int m) {
        s.g = s.g.multiply(BigInteger.valueOf(1103515245)).add(BigInteger.valueOf(12345))
            .mod(BigInteger.valueOf(2147483648L));
        return s.g.divide(BigInteger.valueOf(65536)).mod(BigInteger.valueOf(m)).intValue();
    }

    private int doQuarter(State s) {
        List<Integer> ahead = new ArrayList<>();
        int prize = -1;
        for (int g = told.goods() - 1; g >= 0; g--) {
            if (s.holder[g] < 0) {
                prize = g;
            } else {
                ahead.add(0, g);
            }
        }
        List<Integer> stubs = new ArrayList<>();
        for (int p = 0; p < told.persons(); p++) {
            for (int i = 0; i < s.tickets[p]; i++) {
                stubs.add(p);
            }
        }
        int wins = -1;
        if (prize >= 0 && !stubs.isEmpty()) {
            wins = stubs.get(draw(s, stubs.size()));
            s.holder[prize] = wins;
        }
        for (int g : ahead) {
            int p = s.holder[g];
            int kind = told.kinds.get(p);
            int right = told.owners.get(g);
            if (kind == 1 && fitIn(s, p, g) < 5 || kind == 3 && right != p) {
                s.holder[g] = -1;
            } else if (kind == 2 && right != p) {
                s.holder[g] = right;
            }
        }
        for (int p = 0; p < told.persons(); p++) {
            s.shillings[p] += s.shillings[p] < 50 ? 1 : 0;
        }
        s.quarter++;
        return wins;
    }

    public int person(int person, int what) {
        if (!isP(person)) {
            return -1;
        }
        int bits = 0;
        for (int g = 0; g < told.goods(); g++) {
            bits |= now.holder[g] == person ? 1 << g : 0;
        }
        return what == 0 ? told.kinds.get(person) : what == 1 ? now.shillings[person]
            : what == 2 ? now.tickets[person] : what == 3 ? bits : -1;
    }

    public int good(int good, int what) {
        if (!isG(good)) {
            return -2;
        }
        return what == 0 ? told.worths.get(good) : what == 1 ? told.owners.get(good)
            : what == 2 ? now.holder[good] : -2;
    }

    public int fit(int person, int good) {
        return isP(person) && isG(good) ? fitIn(now, person, good) : -1;
    }

    private void keep(State before) {
        past.addLast(before);
        if (past.size() > 16) {
            past.removeFirst();
        }
    }

    public int buy(int person) {
        State before = now.twin();
        if (!isP(person) || !doBuy(now, person)) {
            return -1;
        }
        keep(before);
        return now.tickets[person];
    }

    public boolean swap(int good, int other) {
        State before = now.twin();
        if (!isG(good) || !isG(other) || !doSwap(now, good, other)) {
            return false;
        }
        keep(before);
        return true;
    }

    public int bring(int good) {
        if (!isG(good) || now.holder[good] < 0) {
            return -1;
        }
        keep(now.twin());
        int p = now.holder[good];
        now.holder[good] = -1;
        return p;
    }

    public int quarter() {
        keep(now.twin());
        return doQuarter(now);
    }

    public boolean undo() {
        if (past.isEmpty()) {
            return false;
        }
        now = past.removeLast();
        return true;
    }

    public int judged(int what) {
        State s = begin();
        int cant = -1;
        int first = -1;
        for (int i = 0; i < lines.size(); i++) {
            Line l = lines.get(i);
            boolean can = true;
            if (l.deed().equals("buy")) {
                can = doBuy(s, l.a());
            } else if (l.deed().equals("swap")) {
                can = doSwap(s, l.a(), l.b());
            } else if (l.deed().equals("bring")) {
                can = s.holder[l.a()] >= 0;
                s.holder[l.a()] = -1;
            } else {
                doQuarter(s);
            }
            cant = !can && cant < 0 ? i : cant;
            first = rightsIn(s) != 0 && first < 0 ? i : first;
        }
        return what == 0 ? cant : what == 1 ? first : what == 2 ? Integer.bitCount(rightsIn(s)) : -2;
    }

    // ---- quarters going by: all standings and all winners ahead ----

    private State[] ahead() {
        State[] row = new State[61];
        row[0] = now;
        for (int i = 1; i <= 60; i++) {
            row[i] = row[i - 1].twin();
            doQuarter(row[i]);
        }
        return row;
    }

    private int[] winners() {
        State s = now.twin();
        int[] row = new int[61];
        for (int i = 1; i <= 60; i++) {
            row[i] = doQuarter(s);
        }
        return row;
    }

    public int winner(int quarters) {
        return quarters < 1 || quarters > 60 ? -1 : winners()[quarters];
    }

    public int where(int good, int quarters) {
        return !isG(good) || quarters < 0 || quarters > 60 ? -2 : ahead()[quarters].holder[good];
    }

    public int has(int person, int good) {
        State[] row = ahead();
        for (int i = 0; i <= 60 && isP(person) && isG(good); i++) {
            if (row[i].holder[good] == person) {
                return i;
            }
        }
        return -1;
    }

    public int home() {
        State[] row = ahead();
        for (int i = 0; i <= 60; i++) {
            if (Integer.bitCount(rightsIn(row[i])) == told.goods()) {
                return i;
            }
        }
        return -1;
    }

    public int empty() {
        State[] row = ahead();
        for (int i = 0; i <= 60; i++) {
            if (held(row[i], -1) == 0) {
                return i;
            }
        }
        return -1;
    }

    public int won(int person, int quarters) {
        if (!isP(person) || quarters < 1 || quarters > 60) {
            return -1;
        }
        return (int) Arrays.stream(winners()).skip(1).limit(quarters).filter(w -> w == person).count();
    }

    public int streak(int person, int quarters) {
        if (!isP(person) || quarters < 1 || quarters > 60) {
            return -1;
        }
        StringBuilder all = new StringBuilder();
        Arrays.stream(winners()).skip(1).limit(quarters).filter(w -> w >= 0).forEach(w -> all.append(w == person ? 'x' : '.'));
        return Arrays.stream(all.toString().split("\\.")).mapToInt(String::length).max().orElse(0);
    }

    public int moves(int good) {
        State[] row = ahead();
        for (int i = 1; i <= 60 && isG(good); i++) {
            if (row[i].holder[good] != now.holder[good]) {
                return i;
            }
        }
        return -1;
    }

    // ---- what is asked of the state ----

    public int least() {
        int found = -1;
        int[] sums = new int[told.goods()];
        for (int g = 0; g < told.goods(); g++) {
            for (int p = 0; p < told.persons(); p++) {
                sums[g] += fitIn(now, p, g);
            }
            found = found < 0 || sums[g] < sums[found] ? g : found;
        }
        return found;
    }

    public int rights() {
        return rightsIn(now);
    }

    public int joy(int person) {
        return isP(person) ? joyIn(now, person) : -1;
    }

    public int envy(int person) {
        if (!isP(person)) {
            return -1;
        }
        int bits = 0;
        for (int q = 0; q < told.persons(); q++) {
            int sum = 0;
            for (int g = 0; g < told.goods(); g++) {
                sum += now.holder[g] == q ? told.fit(person, g, held(now, q) - 1) : 0;
            }
            bits |= sum > joyIn(now, person) ? 1 << q : 0;
        }
        return bits;
    }

    public int offers(int what) {
        List<Integer> found = new ArrayList<>();
        for (int a = 0; a < told.goods(); a++) {
            for (int b = a + 1; b < told.goods(); b++) {
                if (doSwap(now.twin(), a, b)) {
                    found.add(8 * a + b);
                }
            }
        }
        return what == 0 ? found.size() : what == 1 && !found.isEmpty() ? found.get(0) : -1;
    }

    public int want(int person) {
        int found = -1;
        for (int g = 0; g < told.goods() && isP(person); g++) {
            found = found < 0 || fitIn(now, person, g) > fitIn(now, person, found) ? g : found;
        }
        return found;
    }

    public int fans(int good) {
        if (!isG(good)) {
            return -1;
        }
        int bits = 0;
        for (int p = 0; p < told.persons(); p++) {
            bits |= fitIn(now, p, good) == fitIn(now, p, want(p)) ? 1 << p : 0;
        }
        return bits;
    }

    public int dull() {
        int bits = 0;
        for (int g = 0; g < told.goods(); g++) {
            bits |= fans(g) == 0 ? 1 << g : 0;
        }
        return bits;
    }

    /** What each gets, and behind them how many rounds there are. */
    private int[] ring() {
        int n = told.persons();
        int[] got = new int[n + 1];
        Arrays.fill(got, 0, n, -1);
        Map<Integer, Integer> stake = new HashMap<>();
        for (int g = told.goods() - 1; g >= 0; g--) {
            if (now.holder[g] >= 0) {
                stake.put(now.holder[g], g);
            }
        }
        while (!stake.isEmpty()) {
            got[n]++;
            Map<Integer, Integer> points = new HashMap<>();
            for (int p : stake.keySet()) {
                int keeps = held(now, p) - 1;
                int bestGood = stake.values().stream().sorted()
                    .reduce((a, b) -> told.fit(p, b, keeps) > told.fit(p, a, keeps) ? b : a).orElseThrow();
                points.put(p, bestGood);
            }
            Set<Integer> out = new HashSet<>();
            for (int p : stake.keySet()) {
                Set<Integer> met = new HashSet<>();
                int q = now.holder[points.get(p)];
                while (met.add(q) && q != p) {
                    q = now.holder[points.get(q)];
                }
                if (q == p) {
                    out.add(p);
                }
            }
            for (int p : out) {
                got[p] = points.get(p);
                stake.remove(p);
            }
        }
        return got;
    }

    public int gets(int person) {
        return isP(person) ? ring()[person] : -1;
    }

    public int rounds() {
        return ring()[told.persons()];
    }

    private int[] bestRow;
    private int bestSum;

    private void tryRows(int p, int without, int[] row, int sum) {
        if (p == told.persons()) {
            if (sum > bestSum) {
                bestSum = sum;
                bestRow = row.clone();
            }
            return;
        }
        for (int g = 0; g < told.goods() && p != without; g++) {
            int good = g;
            if (Arrays.stream(row, 0, p).noneMatch(r -> r == good)) {
                row[p] = g;
                tryRows(p + 1, without, row, sum + told.fit(p, g, 0));
            }
        }
        row[p] = -1;
        tryRows(p + 1, without, row, sum);
    }

    private void allRows(int without) {
        bestSum = -1;
        tryRows(0, without, new int[told.persons()], 0);
    }

    public int best(int what) {
        allRows(-1);
        return what == -1 ? bestSum : isP(what) ? bestRow[what] : -2;
    }

    public int owes(int person) {
        if (!isP(person)) {
            return -1;
        }
        allRows(-1);
        int others = 0;
        for (int p = 0; p < told.persons(); p++) {
            others += p != person && bestRow[p] >= 0 ? told.fit(p, bestRow[p], 0) : 0;
        }
        allRows(person);
        return bestSum - others;
    }

    public int spare() {
        allRows(-1);
        int bits = 0;
        for (int g = 0; g < told.goods(); g++) {
            int good = g;
            bits |= Arrays.stream(bestRow).noneMatch(r -> r == good) ? 1 << g : 0;
        }
        return bits;
    }

    private int all() {
        return Arrays.stream(now.tickets).sum();
    }

    public int odds(int person, int quarters) {
        if (!isP(person) || quarters < 1 || quarters > 6 || all() == 0) {
            return -1;
        }
        BigInteger whole = BigInteger.valueOf(all()).pow(quarters);
        BigInteger none = BigInteger.valueOf(all() - now.tickets[person]).pow(quarters);
        return whole.subtract(none).multiply(BigInteger.valueOf(1000000)).divide(whole).intValue();
    }

    public int enough(int person, int percent) {
        if (!isP(person) || percent < 1 || percent > 99) {
            return -1;
        }
        int others = all() - now.tickets[person];
        for (int t = 0; t < 100; t++) {
            if (t + others > 0 && 100.0 * t / (t + others) >= percent) {
                return t;
            }
        }
        return -1;
    }

    public int run(int person) {
        if (!isP(person) || now.tickets[person] == 0) {
            return -1;
        }
        int left = 1000000;
        for (int i = 1; i < 100; i++) {
            left = left * (all() - now.tickets[person]) / all();
            if (left <= 500000) {
                return i;
            }
        }
        return -1;
    }

    public boolean see(int good, int much, boolean so) {
        return isG(good) && much >= 0 && much <= 99 && seen.size() < 8 && seen.add(new Sight(good, much, so));
    }

    public int who() {
        int bits = 0;
        for (int p = 0; p < told.persons(); p++) {
            int person = p;
            bits |= seen.stream().allMatch(s -> s.so() == (told.fit(person, s.good(), 0) >= s.much())) ? 1 << p : 0;
        }
        return bits;
    }

    public int ask() {
        int who = who();
        int[] found = {Integer.bitCount(who), -1};
        for (int g = 0; g < told.goods(); g++) {
            for (int n = 1; n < 100; n++) {
                int yes = 0;
                int no = 0;
                for (int p = 0; p < told.persons(); p++) {
                    if ((who & 1 << p) != 0) {
                        yes += told.fit(p, g, 0) >= n ? 1 : 0;
                        no += told.fit(p, g, 0) < n ? 1 : 0;
                    }
                }
                if (Math.max(yes, no) < found[0]) {
                    found = new int[] {Math.max(yes, no), 100 * g + n};
                }
            }
        }
        return found[1];
    }

    public int rich() {
        int found = -1;
        for (int p = 0; p < told.persons(); p++) {
            found = found < 0 || now.shillings[p] > now.shillings[found] ? p : found;
        }
        return found;
    }

    public int sad() {
        int found = -1;
        for (int p = 0; p < told.persons(); p++) {
            found = found < 0 || joyIn(now, p) < joyIn(now, found) ? p : found;
        }
        return found;
    }

    public int lack(int person) {
        if (!isP(person)) {
            return -1;
        }
        int bits = 0;
        for (int g = 0; g < told.goods(); g++) {
            bits |= told.owners.get(g) == person && now.holder[g] != person ? 1 << g : 0;
        }
        return bits;
    }

    public int debt() {
        int n = 0;
        for (int g = 0; g < told.goods(); g++) {
            n += now.holder[g] >= 0 && now.holder[g] != told.owners.get(g) ? 1 : 0;
        }
        return n;
    }

    public int poor() {
        int bits = 0;
        for (int p = 0; p < told.persons(); p++) {
            bits |= held(now, p) + now.tickets[p] + now.shillings[p] == 0 ? 1 << p : 0;
        }
        return bits;
    }

    public int rests(int both, int loses, int gains, int what) {
        List<Integer> found = new ArrayList<>();
        if (Math.min(both, Math.min(loses, gains)) < 0 || Math.max(both, Math.max(loses, gains)) > 9) {
            throw new NoSuchElementException();
        }
        found.add(0);
        if (loses == 0 && gains >= both) {
            found.add(1);
            found.add(2);
        }
        if (both >= gains) {
            found.add(3);
        }
        if (what < -1 || what >= found.size()) {
            throw new NoSuchElementException();
        }
        return what == -1 ? found.size() : found.get(what);
    }

    public int luck(int seed, int quarters, int what) {
        if (seed < 0 || seed > 9999 || quarters < 1 || quarters > 99 || what < 0 || what > 2) {
            return -1;
        }
        State s = now.twin();
        s.g = BigInteger.valueOf(seed);
        int wins = 0;
        for (int i = 0; i < quarters; i++) {
            if (told.persons() > 0) {
                doBuy(s, draw(s, told.persons()));
                if (told.goods() > 0) {
                    int a = draw(s, told.goods());
                    int b = draw(s, told.goods());
                    doSwap(s, a, b);
                }
            }
            wins += doQuarter(s) >= 0 ? 1 : 0;
        }
        int joy = 0;
        for (int p = 0; p < told.persons(); p++) {
            joy += joyIn(s, p);
        }
        return what == 0 ? wins : what == 1 ? rightsIn(s) : joy;
    }

    public boolean mark(int mark, boolean back) {
        if (mark < 0 || mark > 3 || back && marks[mark] == null) {
            return false;
        }
        if (back) {
            now = marks[mark].state().twin();
            seen = new ArrayList<>(marks[mark].seen());
            past.clear();
        } else {
            marks[mark] = new Mark(now.twin(), new ArrayList<>(seen));
        }
        return true;
    }

    public int count(int what) {
        int bits = 0;
        for (int g = 0; g < told.goods(); g++) {
            bits |= now.holder[g] < 0 ? 1 << g : 0;
        }
        int joy = 0;
        for (int p = 0; p < told.persons(); p++) {
            joy += joyIn(now, p);
        }
        int[] all = {told.persons(), told.goods(), now.quarter, bits, all(), Arrays.stream(now.shillings).sum(), joy,
            lines.size(), seen.size(), past.size(), tape.length()};
        return what >= 0 && what < all.length ? all[what] : -1;
    }
}
