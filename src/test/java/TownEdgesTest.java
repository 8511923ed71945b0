/** The edges of promises 4 and 5, a test for each sentence that names one. */
public final class TownEdgesTest {
    private static final int[] NO_WHAT = {-1, 2, 3, Integer.MIN_VALUE, Integer.MAX_VALUE};

    public static void main(String[] args) {
        Check c = new Check("TownEdgesTest");
        tapeGoes(c);
        howManyStatements(c);
        allStays(c);
        allStaysOfNothing(c);
        dayHourFriendsPurses(c);
        nothingSeenOrUndone(c);
        seedStays(c);
        nothingOfOldTowns(c);
        faultAheadOfAny(c);
        faultOfTheLatest(c);
        c.end();
    }

    /** Promise 4: "The tape (it goes) is THE TOWN". */
    private static void tapeGoes(Check c) {
        TenthMan x = new TenthMan();
        for (String text : new String[] {"room a;room b;", "room a;room a;", "!", ""}) {
            Check.town(x, text);
            c.due("tape behind " + text, 0, Twins.tapeLength(x));
            c.due("feed behind " + text, 20, x.feed(0x20202020, 0x20202020, 0x20202020, 0x20202020, 0x20202020));
            c.due("blanks alone are a town", 0, x.town());
        }
    }

    /** Promise 4: "how many STATEMENTS". */
    private static void howManyStatements(Check c) {
        TenthMan x = new TenthMan();
        c.due("none", 0, Check.town(x, ""));
        c.due("blanks", 0, Check.town(x, " \n"));
        c.due("one", 1, Check.town(x, "hour 1;"));
        c.due("hours count each", 3, Check.town(x, "hour 1;hour 1;hour 1;"));
        c.due("of all kinds", 40, Check.town(x, Full.text()));
        c.due("80", 80, Check.town(x, "hour 1;".repeat(80)));
        c.due("none again", 0, Check.town(x, ""));
        c.due("and nothing is there", 0, x.has(4));
    }

    /** Promise 4: "NONE with a FAULT (all stays)": each fault, at the first byte, within and at the end. */
    private static void allStays(Check c) {
        refused(c, "!", 1, 0);
        refused(c, "room z;man y lets all bribe 1 tires 1", 1, 37);
        refused(c, "room z;hour 3;person q at z to z coins 1 tact 100;", 2, 46);
        refused(c, "hour 9;room z;room y;man z lets all bribe 1 tires 1;", 3, 25);
        refused(c, "man y lets all bribe 1 tires 1;man z lets [[[[[[[all]]]]]]] bribe 1 tires 1;", 4, 48);
        refused(c, Full.rooms(10) + "room z;", 5, 80);
        refused(c, "hour 9;".repeat(81), 5, 560);
        refused(c, Full.text() + "!", 1, Full.text().length());
    }

    private static void refused(Check c, String text, int fault, int place) {
        Twins.onlyFaultTold(c, "town of " + text, () -> {
            TenthMan x = Twins.busyWithoutTape();
            Check.put(x, Check.bytes(text));
            return x;
        }, fault, place);
    }

    /** The same where no town was told so far. */
    private static void allStaysOfNothing(Check c) {
        TenthMan x = new TenthMan();
        c.due("a fault", -1, Check.town(x, Full.text() + "hour 5;hour 24;"));
        for (int what = 0; what <= 10; what++) {
            c.due("has(" + what + ")", 0, x.has(what));
        }
        c.due("image", 4, x.image());
        c.due("letter", -1, x.letter(0, 0, 0));
    }

    /** Promise 4: "Without one it is day 0, nobody has FRIENDS, purses are 0". */
    private static void dayHourFriendsPurses(Check c) {
        TenthMan x = Twins.busyWithoutTape();
        c.due("a day", 1, x.has(5));
        c.due("friends", 2, x.has(9));
        c.due("purses", true, x.has(8) > 0);
        c.due("the same town again", 11, Check.town(x, Twins.TOWN));
        int[] want = {3, 3, 2, 2, 6, 0, 0, 29, 0, 0, 0};
        for (int what = 0; what < want.length; what++) {
            c.due("has(" + what + ")", want[what], x.has(what));
        }
        for (int man = 0; man < 3; man++) {
            c.due("gate of man " + man, man < 2 ? man : -1, x.man(man, 0));
            c.due("let through by man " + man, 0, x.man(man, 2));
            c.due("purse of man " + man, 0, x.man(man, 4));
            c.due("friends of man " + man, 0, x.man(man, 5));
        }
        c.due("p is where he was told", 0, x.person(0, 0));
        c.due("p goes where he was told", 2, x.person(0, 1));
        c.due("p's coins", 20, x.person(0, 2));
        c.due("q is where he was told", 2, x.person(1, 0));
    }

    /** Promise 4: "nothing is SEEN or can be undone". */
    private static void nothingSeenOrUndone(Check c) {
        TenthMan x = Twins.busyWithoutTape();
        c.due("seen", true, x.seen() >= 0);
        c.due("acts", true, x.has(10) > 0);
        Check.town(x, Twins.TOWN);
        c.due("nothing seen", -1, x.seen());
        c.due("nothing to undo", 0, x.has(10));
        c.due("undo", false, x.undo());
        x.hour(3);
        c.due("one act", true, x.undo());
        c.due("and no more", false, x.undo());
        TenthMan y = Twins.busyWithoutTape();
        Check.town(y, "");
        c.due("nothing seen in a town of nothing", -1, y.seen());
        c.due("nothing to undo in it", false, y.undo());
    }

    /** Promise 4: "the seed stays". */
    private static void seedStays(Check c) {
        TenthMan told = Check.told(Full.text());
        TenthMan twin = Check.told(Full.text());
        told.seed(4711);
        twin.seed(4711);
        told.lots();
        twin.lots();
        c.due("another town", 40, Check.town(told, Full.text()));
        c.due("a fault", -1, Check.town(told, "!"));
        while (twin.undo()) {
            c.due("undone", 0, twin.has(10));
        }
        c.due("the man of gate 0", twin.lots(), told.lots());
        for (int gate = 0; gate < 12; gate++) {
            c.due("the man of gate " + gate, twin.gate(gate, 2), told.gate(gate, 2));
        }
    }

    /** A town has nothing of those told or refused ahead of it. */
    private static void nothingOfOldTowns(Check c) {
        TenthMan x = Full.town();
        c.due("a small town", 4, Check.town(x, "room a;room b;man m lets tact=5 bribe 7 tires 1;person p at a to b coins 1 tact 5;"));
        c.due("no gates", -1, x.gate(0, 2));
        c.due("no way", -1, x.way(0, -1));
        c.due("for nothing", 0, x.lets(0, 0));
        c.due("no man 1", -1, x.man(1, 1));
        c.due("no friends of old", 0, x.man(0, 5));
        c.due("a full town again", 40, Check.town(x, Full.text()));
        c.due("man 11", 11, x.lets(11, 5));
        c.due("a fault behind men", -1, Check.town(x, Full.men(12) + "!"));
        c.due("man 11 still", 11, x.lets(11, 5));
        c.due("standings of the full town", 6, x.exchange(-1));
        c.due("a small town again", 4, Check.town(x, "room a;room b;man m lets all bribe 7 tires 1;person p at a to b coins 1 tact 5;"));
        c.due("its standings", 0, x.exchange(-1));
        c.due("its standing, of no gates", 0, x.stand(-1));
        String sum = "0" + "+1".repeat(750);
        for (int i = 0; i < 5; i++) {
            String text = "room a;man m lets not all bribe " + sum + "-700+" + i + " tires 1;person p at a to a coins 1 tact 1;";
            c.due("a long sum " + i, 3, Check.town(x, text));
            c.due("is reckoned whole", 50 + i, x.lets(0, 0));
            c.due("a long one with a fault", -1, Check.town(x, "man m lets all bribe " + sum + ";"));
            c.due("leaves it", 50 + i, x.lets(0, 0));
        }
    }

    /** Promise 5: "its FAULT (what 0; 0 without, and ahead of any), its place (1; NONE without). NONE for another what." */
    private static void faultAheadOfAny(Check c) {
        TenthMan x = new TenthMan();
        faultIs(c, "ahead of any", x, 0, -1);
        x.feed(0x21212121, 0, 0, 0, 0);
        x.see();
        x.on();
        faultIs(c, "see and on tell none", x, 0, -1);
    }

    private static void faultOfTheLatest(Check c) {
        TenthMan x = new TenthMan();
        Check.town(x, "hour 1;");
        faultIs(c, "a town without", x, 0, -1);
        Check.town(x, "!");
        faultIs(c, "at the first byte", x, 1, 0);
        Check.town(x, "hour 1;hour 24;");
        faultIs(c, "fault 2", x, 2, 12);
        Check.town(x, "room a;room a;");
        faultIs(c, "fault 3", x, 3, 12);
        Check.town(x, "man m lets [[[[[[[");
        faultIs(c, "fault 4", x, 4, 17);
        Check.town(x, "hour 1;".repeat(80) + "!");
        faultIs(c, "fault 5", x, 5, 560);
        x.hour(5);
        x.image();
        x.undo();
        faultIs(c, "still the latest", x, 5, 560);
        Check.town(x, "");
        faultIs(c, "a town without behind one with", x, 0, -1);
        Check.town(x, " ".repeat(1599) + "!");
        faultIs(c, "at the last byte that can be", x, 1, 1599);
        Check.town(x, " ".repeat(1596) + "hour");
        faultIs(c, "at the longest text's length", x, 1, 1600);
    }

    private static void faultIs(Check c, String when, TenthMan x, int fault, int place) {
        c.due(when + ": fault(0)", fault, x.fault(0));
        c.due(when + ": fault(1)", place, x.fault(1));
        for (int what : NO_WHAT) {
            c.due(when + ": fault(" + what + ")", -1, x.fault(what));
        }
    }
}
