/** The edges of a WAY and of what is REACHED (promises 12, 13), a test for each sentence that names one. */
public final class WayEdgesTest {
    private static final int[] NO_PERSON = {Integer.MIN_VALUE, -2, -1, 6, 7, 32, Integer.MAX_VALUE};

    public static void main(String[] args) {
        Check c = new Check("WayEdgesTest");
        fewestCoins(c);
        fewestGates(c);
        firstByRooms(c);
        firstByGates(c);
        bothWays(c);
        thereAlready(c);
        noWay(c);
        noSuchGateOfIt(c);
        noSuchPerson(c);
        longest(c);
        ofEachPerson(c);
        asAllIsNow(c);
        reachedRooms(c);
        reachedForNothing(c);
        reachedNoSuch(c);
        c.end();
    }

    /** Rooms ra and on, gates such as "ab5" by men who want so much, and p from ra to the given one. */
    private static TenthMan town(int rooms, char to, String... gates) {
        StringBuilder s = new StringBuilder(Full.rooms(rooms));
        for (int i = 0; i < gates.length; i++) {
            String man = Full.name('m', i);
            s.append("man ").append(man).append(" lets not all bribe ").append(gates[i].substring(2)).append(" tires 9;gate r");
            s.append(gates[i].charAt(0)).append(" r").append(gates[i].charAt(1)).append(" by ").append(man).append(';');
        }
        return Check.told(s + "person p at ra to r" + to + " coins 20 tact 0;");
    }

    private static void way(Check c, String name, TenthMan x, int person, int costs, int... gates) {
        c.due(name + ": costs", costs, x.way(person, -1));
        c.due(name + ": gates", gates.length, x.way(person, 20));
        for (int k = 0; k < 20; k++) {
            c.due(name + ": gate " + k, k < gates.length ? gates[k] : -1, x.way(person, k));
        }
    }

    /** "the fewest coins" (a way that he can't pay is one, too). */
    private static void fewestCoins(Check c) {
        way(c, "less by a coin though longer", town(4, 'd', "ad7", "ab2", "bc2", "cd2"), 0, 6, 1, 2, 3);
        way(c, "more by a coin and longer", town(4, 'd', "ad5", "ab2", "bc2", "cd2"), 0, 5, 0);
        way(c, "by nine gates for nothing, not by one for a coin",
                town(10, 'j', "aj1", "ab0", "bc0", "cd0", "de0", "ef0", "fg0", "gh0", "hi0", "ij0"), 0, 0, 1, 2, 3, 4, 5, 6, 7, 8, 9);
        way(c, "all that he has", town(2, 'b', "ab20"), 0, 20, 0);
        way(c, "more than he has", town(2, 'b', "ab21"), 0, 21, 0);
        way(c, "the most that a man takes", town(2, 'b', "ab100"), 0, 99, 0);
    }

    /** "of like ones the fewest GATES". */
    private static void fewestGates(Check c) {
        way(c, "one gate, told last", town(4, 'd', "ab2", "bc2", "cd2", "ad6"), 0, 6, 3);
        way(c, "two gates by the last room", town(5, 'e', "ab0", "bc0", "ce0", "ad0", "de0"), 0, 0, 3, 4);
        way(c, "one gate for nothing", town(3, 'c', "ab0", "bc0", "ac0"), 0, 0, 2);
    }

    /** "of like ones the first by ROOMS he comes to, one behind the other". */
    private static void firstByRooms(Check c) {
        way(c, "by b, though told last", town(4, 'd', "ac1", "cd1", "ab1", "bd1"), 0, 2, 2, 3);
        way(c, "by b, though it pays more at first", town(4, 'd', "ac0", "cd4", "ab4", "bd0"), 0, 4, 2, 3);
        way(c, "the second room decides", town(6, 'f', "ab1", "be1", "ef1", "bc1", "cf1"), 0, 3, 0, 3, 4);
        way(c, "the first room ahead of the second", town(6, 'f', "ac1", "cd1", "df1", "ab1", "be1", "ef1"), 0, 3, 3, 4, 5);
    }

    /** "of like ones the first GATES". */
    private static void firstByGates(Check c) {
        way(c, "the first of three alike", town(2, 'b', "ab9", "ba5", "ab5", "ab5"), 0, 5, 1);
        way(c, "at each step", town(3, 'c', "bc1", "ab1", "bc1", "ab1"), 0, 2, 1, 0);
        way(c, "rooms ahead of gates", town(4, 'd', "ac1", "cd1", "bd1", "ab1"), 0, 2, 3, 2);
    }

    /** II: "A GATE can be gone through both ways." */
    private static void bothWays(Check c) {
        TenthMan x = town(3, 'c', "ba3", "bc4");
        way(c, "against and along", x, 0, 7, 0, 1);
        x.go(0);
        way(c, "back", x, 0, 7, 1, 0);
    }

    /** Promise 12: "how many GATES (k 20; 0 and nothing when he is there)". */
    private static void thereAlready(Check c) {
        way(c, "there, by gates", town(2, 'a', "ab0"), 0, 0);
        way(c, "there, no gates", town(1, 'a'), 0, 0);
    }

    /** Promise 12: "NONE when there is none such" (a WAY). */
    private static void noWay(Check c) {
        TenthMan[] towns = {town(2, 'b'), town(4, 'd', "ab0", "bc0"), town(4, 'd', "bd0", "cd0")};
        for (TenthMan x : towns) {
            for (int k = -2; k <= 22; k++) {
                c.due("way(0, " + k + ")", -1, x.way(0, k));
            }
        }
    }

    /** Promise 12: "COSTS (k NONE), the k-th GATE (0 and on), how many GATES (k 20 ..). NONE .. for others." */
    private static void noSuchGateOfIt(Check c) {
        TenthMan x = town(3, 'c', "ab3", "bc4");
        int[] none = {Integer.MIN_VALUE, -3, -2, 2, 3, 9, 10, 11, 12, 19, 21, 22, 32, Integer.MAX_VALUE};
        for (int k : none) {
            c.due("way(0, " + k + ")", -1, x.way(0, k));
        }
        c.due("way(0, 1)", 1, x.way(0, 1));
        c.due("way(0, 20)", 2, x.way(0, 20));
    }

    private static void noSuchPerson(Check c) {
        TenthMan full = Full.town();
        for (int person : NO_PERSON) {
            for (int k : new int[] {-1, 0, 20}) {
                c.due("way(" + person + ", " + k + ")", -1, full.way(person, k));
            }
        }
        c.due("the last one", 5, full.way(5, -1));
        c.due("person 1 of one", -1, town(2, 'b', "ab1").way(1, -1));
        c.due("person 0 of none", -1, Check.told("room a;").way(0, -1));
    }

    /** Ten rooms give ways of nine gates. */
    private static void longest(Check c) {
        way(c, "nine gates", town(10, 'j', "ij99", "ih99", "gh99", "gf99", "ef99", "ed99", "cd99", "cb99", "ab99"), 0, 891,
                8, 7, 6, 5, 4, 3, 2, 1, 0);
        // 16 gates' worth of steps must not outweigh a coin: eight coins by nine gates against nine by one.
        way(c, "nine gates for a coin less", town(10, 'j', "aj9", "ab0", "bc1", "cd1", "de1", "ef1", "fg1", "gh1", "hi1", "ij1"), 0, 8,
                1, 2, 3, 4, 5, 6, 7, 8, 9);
    }

    private static void ofEachPerson(Check c) {
        TenthMan x = Full.town();
        for (int person = 0; person < 6; person++) {
            way(c, "person " + person, x, person, person, person);
        }
        TenthMan y = Check.told(Full.rooms(10) + Full.men(12) + Full.gates(12) + "person p at ra to rb coins 0 tact 0;"
                + "person q at ra to rj coins 0 tact 0;person r at rh to rj coins 0 tact 0;");
        way(c, "q by the last gate", y, 1, 11, 11);
        way(c, "r by two", y, 2, 15, 7, 8);
    }

    /** II: "at this hour, as all is now". */
    private static void asAllIsNow(Check c) {
        TenthMan x = Check.told("room a;room b;man k lets hour=5 bribe 3+passed tires 3;man l lets day=1 bribe 9 tires 3;gate a b by k;"
                + "gate a b by l;person p at a to b coins 20 tact 0;");
        way(c, "hour 0", x, 0, 3, 0);
        x.hour(5);
        way(c, "hour 5", x, 0, 0, 0);
        x.hour(6);
        x.go(0);
        way(c, "one let through", x, 0, 4, 0);
        x.friend(0, 1, true);
        way(c, "a friend", x, 0, 0, 1);
        x.friend(0, 1, false);
        x.swap(0, 1);
        way(c, "men changed", x, 0, 4, 1);
        x.night();
        way(c, "day 1", x, 0, 0, 0);
        x.night();
        way(c, "day 2", x, 0, 3, 1);
        x.go(0);
        x.go(0);
        x.go(0);
        way(c, "fainted", x, 0, 0, 1);
    }

    /** Promise 13: "ROOMS REACHED by a PERSON, as bits (the one he is in, too)". */
    private static void reachedRooms(Check c) {
        TenthMan alone = town(2, 'b', "ab1");
        c.due("the one he is in", 1, alone.reached(0));
        TenthMan all = town(10, 'a', "ab0", "bc0", "cd0", "de0", "ef0", "fg0", "gh0", "hi0", "ij0");
        c.due("all ten", 1023, all.reached(0));
        TenthMan full = Full.town();
        int[] want = {3, 3, 4, 8, 16, 32};
        for (int person = 0; person < 6; person++) {
            c.due("of person " + person, want[person], full.reached(person));
        }
        c.due("no gates", 32, Check.told(Full.rooms(10) + Full.people(6)).reached(5));
    }

    /** III: "REACHED are ROOMS to which a PERSON can come for nothing." */
    private static void reachedForNothing(Check c) {
        TenthMan x = town(4, 'd', "ab0", "bc1", "cd0", "ad1");
        c.due("a, b", 3, x.reached(0));
        x.friend(0, 3, true);
        c.due("all", 15, x.reached(0));
        x.undo();
        c.due("a, b again", 3, x.reached(0));
        TenthMan y = Check.told("room a;room b;room c;man k lets tact=7 bribe 5 tires 2;man l lets not all bribe 5 tires 1;gate a b by k;"
                + "gate b c by l;person p at a to b coins 9 tact 7;person q at c to b coins 9 tact 6;");
        c.due("by a test", 3, y.reached(0));
        c.due("not so another", 4, y.reached(1));
        y.go(1);
        c.due("by one who has fainted", 7, y.reached(0));
        c.due("another, too", 6, y.reached(1));
    }

    /** Promise 13: "NONE when there is none such". */
    private static void reachedNoSuch(Check c) {
        TenthMan full = Full.town();
        for (int person : NO_PERSON) {
            c.due("reached(" + person + ")", -1, full.reached(person));
        }
        c.due("person 1 of one", -1, town(2, 'b', "ab1").reached(1));
        c.due("person 0 of none", -1, Check.told("room a;").reached(0));
    }
}
