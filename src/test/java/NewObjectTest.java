/** Promise 1: a new object has nothing. */
public final class NewObjectTest {
    public static void main(String[] args) {
        Checks c = new Checks();
        SoulRaffle x = new SoulRaffle();
        c.is("NONE", SoulRaffle.NONE, -1);
        for (int what = 0; what <= 10; what++) {
            c.is("count(" + what + ")", x.count(what), 0);
        }
        c.is("office() of nothing", x.office(), 0);
        c.is("year() of nothing", x.year(), 0);
        c.is("best(NONE)", x.best(SoulRaffle.NONE), 0);
        c.is("home()", x.home(), 0);
        c.is("empty()", x.empty(), 0);
        c.is("rich()", x.rich(), -1);
        c.is("sad()", x.sad(), -1);
        c.is("least()", x.least(), -1);
        c.is("rounds()", x.rounds(), 0);
        c.is("undo()", x.undo(), false);
        c.is("mark(0, true)", x.mark(0, true), false);
        c.end("NewObjectTest");
    }
}
