/** Promises 1 to 3: a new object, feed, end. */
public final class TapeTest {
    public static void main(String[] args) {
        Check c = new Check("TapeTest");
        newObject(c);
        feeding(c);
        ending(c);
        order(c);
        c.end();
    }

    private static void newObject(Check c) {
        TenthMan x = new TenthMan();
        for (int what = 0; what <= 10; what++) {
            c.due("new has(" + what + ")", 0, x.has(what));
        }
        c.due("new octet", -1, x.octet(0));
        c.due("new seen", -1, x.seen());
        c.due("new fault 0", 0, x.fault(0));
        c.due("new fault 1", -1, x.fault(1));
        c.due("new undo", false, x.undo());
        c.due("new town of nothing", 0, x.town());
        c.due("NONE", -1, TenthMan.NONE);
    }

    private static void feeding(Check c) {
        TenthMan x = new TenthMan();
        for (int i = 1; i <= 80; i++) {
            c.due("feed " + i, 20 * i, x.feed(i, 0, -1, 7, 9));
        }
        c.due("feed above 1600", -1, x.feed(1, 2, 3, 4, 5));
        c.due("end 1600", true, x.end(1600));
        c.due("end 1581", true, x.end(1581));
        c.due("feed at 1581", -1, x.feed(1, 2, 3, 4, 5));
        c.due("end 1580", true, x.end(1580));
        c.due("feed at 1580", 1600, x.feed(1, 2, 3, 4, 5));
    }

    private static void ending(Check c) {
        TenthMan x = new TenthMan();
        c.due("end 0 of none", true, x.end(0));
        c.due("end 1 of none", false, x.end(1));
        c.due("end -1", false, x.end(-1));
        c.due("feed", 20, x.feed(0, 0, 0, 0, 0));
        c.due("end 21", false, x.end(21));
        c.due("end least", false, x.end(Integer.MIN_VALUE));
        c.due("end most", false, x.end(Integer.MAX_VALUE));
        c.due("end 7", true, x.end(7));
        c.due("end 8", false, x.end(8));
        c.due("feed behind 7", 27, x.feed(0, 0, 0, 0, 0));
    }

    private static void order(Check c) {
        TenthMan x = new TenthMan();
        // "room" " abc" ";   " and blanks; 10 is a blank too.
        c.due("feed", 20, x.feed(0x726f6f6d, 0x20616263, 0x3b0a2020, 0x20202020, 0x2020200a));
        c.due("town", 1, x.town());
        c.due("letter 0", 1, x.letter(0, 0, 0));
        c.due("letter 1", 2, x.letter(0, 0, 1));
        c.due("letter 2", 3, x.letter(0, 0, 2));
        c.due("letter 3", 0, x.letter(0, 0, 3));
        c.due("letter 5", 0, x.letter(0, 0, 5));
        c.due("letter 6", -1, x.letter(0, 0, 6));
        c.due("the tape went", false, x.end(1));
    }
}
