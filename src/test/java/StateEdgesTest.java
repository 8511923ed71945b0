/** The edges of promises 6 to 10, a test for each sentence that names one. */
public final class StateEdgesTest {
    private static final int[] FAR = {Integer.MIN_VALUE, -33, -2, 32, 255, 65536, Integer.MAX_VALUE};

    public static void main(String[] args) {
        Check c = new Check("StateEdgesTest");
        hasOfFull(c);
        hasOfOthers(c);
        menWhoHaveFainted(c);
        coinsStayTogether(c);
        actsThatCanBeUndone(c);
        letters(c);
        noSuchLetter(c);
        gates(c);
        men(c);
        manWithoutGate(c);
        people(c);
        friendsAsBits(c);
        c.end();
    }

    /** Promise 6: "How many there are", of towns that are full. */
    private static void hasOfFull(Check c) {
        TenthMan x = Full.town();
        int[] want = {10, 12, 12, 6, 0, 0, 0, 150, 0, 0, 0};
        for (int what = 0; what < want.length; what++) {
            c.due("has(" + what + ")", want[what], x.has(what));
        }
        for (int person = 0; person < 6; person++) {
            for (int man = 0; man < 12; man++) {
                c.due("friend", true, x.friend(person, man, true));
            }
        }
        c.due("72 friendships", 72, x.has(9));
        c.due("20 acts", 20, x.has(10));
        TenthMan rich = Check.told("room a;person p at a to a coins 999 tact 1;person q at a to a coins 999 tact 1;"
                + "person r at a to a coins 999 tact 1;person s at a to a coins 999 tact 1;person t at a to a coins 999 tact 1;"
                + "person u at a to a coins 999 tact 1;hour 23;");
        c.due("all the coins that can be", 5994, rich.has(7));
        c.due("hour", 23, rich.has(4));
    }

    /** Promise 6: "NONE for others". */
    private static void hasOfOthers(Check c) {
        TenthMan x = Full.town();
        for (int what : new int[] {-1, 11, 12}) {
            c.due("has(" + what + ")", -1, x.has(what));
        }
        for (int what : FAR) {
            c.due("has(" + what + ")", -1, x.has(what));
        }
    }

    /** Promise 6: "6 MEN who have FAINTED" (the last man, too). */
    private static void menWhoHaveFainted(Check c) {
        String men = Full.men(12).replaceAll("tires \\d+", "tires 1");
        TenthMan x = Check.told(Full.rooms(10) + men + Full.gates(12) + "person p at ra to ri coins 99 tact 0;"
                + "person q at rj to rh coins 99 tact 0;");
        c.due("none", 0, x.has(6));
        c.due("p by gate 10", 10, x.go(0));
        c.due("one", 1, x.has(6));
        c.due("man 10", 1, x.man(10, 3));
        c.due("man 11 not", 0, x.man(11, 3));
        c.due("q by gates 8, and 7", 15, x.go(1));
        c.due("three", 3, x.has(6));
        x.night();
        c.due("none today", 0, x.has(6));
        x.undo();
        c.due("three again", 3, x.has(6));
    }

    /** Promise 6: "7 coins of PEOPLE, 8 coins in purses". */
    private static void coinsStayTogether(Check c) {
        TenthMan x = Full.town();
        int paid = x.go(5);
        c.due("p5 pays man 5", 5, paid);
        c.due("coins", 145, x.has(7));
        c.due("purses", 5, x.has(8));
        c.due("p4 pays man 4", 4, x.go(4));
        c.due("coins", 141, x.has(7));
        c.due("purses", 9, x.has(8));
        x.night();
        c.due("a night leaves purses", 9, x.has(8));
    }

    /** Promise 6: "10 ACTS that can be undone" (20 at most). */
    private static void actsThatCanBeUndone(Check c) {
        TenthMan x = Full.town();
        for (int i = 1; i <= 25; i++) {
            x.hour(i % 24);
            c.due("acts behind " + i, Math.min(i, 20), x.has(10));
        }
        for (int i = 19; i >= 0; i--) {
            x.undo();
            c.due("acts left", i, x.has(10));
        }
        x.undo();
        c.due("none left", 0, x.has(10));
    }

    /** Promise 7: "Letter k (0 .. 5) of the NAME .. 1 .. 26; 0 behind it". */
    private static void letters(Check c) {
        TenthMan x = Check.told("room abcxyz;room z;man zyxcba lets all bribe 1 tires 1;man azazaz lets all bribe 1 tires 1;"
                + "man q lets all bribe 1 tires 1;person zzzzzz at z to z coins 1 tact 1;person aaaaa at z to z coins 1 tact 1;");
        name(c, x, 0, 0, 1, 2, 3, 24, 25, 26);
        name(c, x, 0, 1, 26, 0, 0, 0, 0, 0);
        name(c, x, 1, 0, 26, 25, 24, 3, 2, 1);
        name(c, x, 1, 1, 1, 26, 1, 26, 1, 26);
        name(c, x, 1, 2, 17, 0, 0, 0, 0, 0);
        name(c, x, 2, 0, 26, 26, 26, 26, 26, 26);
        name(c, x, 2, 1, 1, 1, 1, 1, 1, 0);
        TenthMan full = Full.town();
        name(c, full, 0, 9, 18, 10, 0, 0, 0, 0);
        name(c, full, 1, 11, 13, 12, 0, 0, 0, 0);
        name(c, full, 2, 5, 16, 6, 0, 0, 0, 0);
    }

    private static void name(Check c, TenthMan x, int kind, int which, int... want) {
        for (int k = 0; k < 6; k++) {
            c.due("letter(" + kind + ", " + which + ", " + k + ")", want[k], x.letter(kind, which, k));
        }
    }

    /** Promise 7: "NONE when there is none such". */
    private static void noSuchLetter(Check c) {
        TenthMan x = Full.town();
        int[] counts = {10, 12, 6};
        for (int kind = 0; kind < 3; kind++) {
            c.due("which -1 of " + kind, -1, x.letter(kind, -1, 0));
            c.due("one more of " + kind, -1, x.letter(kind, counts[kind], 0));
            c.due("letter -1 of " + kind, -1, x.letter(kind, 0, -1));
            c.due("letter 6 of " + kind, -1, x.letter(kind, 0, 6));
            for (int far : FAR) {
                c.due("which " + far, -1, x.letter(kind, far, 0));
                c.due("letter " + far, -1, x.letter(kind, 0, far));
            }
        }
        c.due("kind -1", -1, x.letter(-1, 0, 0));
        c.due("kind 3", -1, x.letter(3, 0, 0));
        for (int far : FAR) {
            c.due("kind " + far, -1, x.letter(far, 0, 0));
        }
        TenthMan few = Check.told("room a;room b;man m lets all bribe 1 tires 1;");
        c.due("room 2 of two", -1, few.letter(0, 2, 0));
        c.due("man 1 of one", -1, few.letter(1, 1, 0));
        c.due("person 0 of none", -1, few.letter(2, 0, 0));
    }

    /** Promise 8: "NONE when there is none such, or for others". */
    private static void gates(Check c) {
        TenthMan x = Full.town();
        for (int gate = 0; gate < 12; gate++) {
            c.due("first room of " + gate, gate < 9 ? gate : 0, x.gate(gate, 0));
            c.due("other room of " + gate, gate < 9 ? gate + 1 : gate - 2, x.gate(gate, 1));
            c.due("man of " + gate, gate, x.gate(gate, 2));
            c.due("what -1 of " + gate, -1, x.gate(gate, -1));
            c.due("what 3 of " + gate, -1, x.gate(gate, 3));
        }
        for (int what = 0; what < 3; what++) {
            c.due("gate -1", -1, x.gate(-1, what));
            c.due("gate 12", -1, x.gate(12, what));
            for (int far : FAR) {
                c.due("gate " + far, -1, x.gate(far, what));
                c.due("what " + far, -1, x.gate(0, far));
            }
        }
        TenthMan one = Check.told("room a;room b;" + Full.men(3) + "gate a b by mc;");
        c.due("gate 0 of one", 2, one.gate(0, 2));
        c.due("gate 1 of one", -1, one.gate(1, 2));
        c.due("gate 0 of none", -1, Check.told(Full.rooms(2) + Full.men(2)).gate(0, 2));
    }

    /** Promise 9: "NONE when there is none such, or for others". */
    private static void men(Check c) {
        TenthMan x = Full.town();
        for (int man = 0; man < 12; man++) {
            int[] want = {man, man + 1, 0, 0, 0, 0};
            for (int what = 0; what < 6; what++) {
                c.due("man(" + man + ", " + what + ")", want[what], x.man(man, what));
            }
            c.due("what -1 of " + man, -1, x.man(man, -1));
            c.due("what 6 of " + man, -1, x.man(man, 6));
        }
        for (int what = 0; what < 6; what++) {
            c.due("man -1", -1, x.man(-1, what));
            c.due("man 12", -1, x.man(12, what));
            for (int far : FAR) {
                c.due("man " + far, -1, x.man(far, what));
                c.due("what " + far, -1, x.man(0, far));
            }
        }
        x.friend(0, 11, true);
        x.friend(5, 11, true);
        c.due("friends of man 11", 2, x.man(11, 5));
        c.due("friends of man 10", 0, x.man(10, 5));
    }

    /** Promise 9: "0 his GATE (NONE without)". */
    private static void manWithoutGate(Check c) {
        TenthMan x = Check.told(Full.rooms(3) + Full.men(4) + "gate ra rb by md;gate rb rc by mb;");
        int[] want = {-1, 1, -1, 0};
        for (int man = 0; man < 4; man++) {
            c.due("gate of man " + man, want[man], x.man(man, 0));
        }
        x.swap(0, 1);
        int[] then = {-1, 0, -1, 1};
        for (int man = 0; man < 4; man++) {
            c.due("gate of man " + man + " then", then[man], x.man(man, 0));
        }
        TenthMan full = Full.town();
        full.swap(0, 11);
        c.due("man 0 at gate 11", 11, full.man(0, 0));
        c.due("man 11 at gate 0", 0, full.man(11, 0));
        TenthMan none = Check.told(Full.rooms(3) + Full.men(1));
        c.due("no gates", -1, none.man(0, 0));
    }

    /** Promise 10: "NONE when there is none such, or for others". */
    private static void people(Check c) {
        TenthMan x = Full.town();
        for (int person = 0; person < 6; person++) {
            int[] want = {person, person + 1, 10 * person, person, 0};
            for (int what = 0; what < 5; what++) {
                c.due("person(" + person + ", " + what + ")", want[what], x.person(person, what));
            }
            c.due("what -1 of " + person, -1, x.person(person, -1));
            c.due("what 5 of " + person, -1, x.person(person, 5));
        }
        for (int what = 0; what < 5; what++) {
            c.due("person -1", -1, x.person(-1, what));
            c.due("person 6", -1, x.person(6, what));
            for (int far : FAR) {
                c.due("person " + far, -1, x.person(far, what));
                c.due("what " + far, -1, x.person(0, far));
            }
        }
        c.due("person 0 of none", -1, Check.told("room a;").person(0, 0));
    }

    /** Promise 10: "4 his FRIENDS as bits of MEN". */
    private static void friendsAsBits(Check c) {
        TenthMan x = Full.town();
        x.friend(5, 0, true);
        c.due("man 0", 1, x.person(5, 4));
        x.friend(5, 11, true);
        c.due("men 0, 11", 2049, x.person(5, 4));
        c.due("another's", 0, x.person(4, 4));
        for (int man = 1; man < 11; man++) {
            x.friend(5, man, true);
        }
        c.due("all men", 4095, x.person(5, 4));
        x.friend(5, 0, false);
        c.due("but the first", 4094, x.person(5, 4));
    }
}
