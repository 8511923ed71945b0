/** Promises 12, 13: ways and what is reached. */
public final class WaysTest {
    public static void main(String[] args) {
        Check c = new Check("WaysTest");
        coinsFirst(c);
        gatesThen(c);
        roomsThen(c);
        gatesLast(c);
        there(c);
        noWay(c);
        bothWays(c);
        longest(c);
        reaching(c);
        c.end();
    }

    /** Rooms a to the last letter; each gate "ab5" joins two rooms for so much; the people at a to the given room. */
    private static TenthMan town(char last, String to, String... gates) {
        StringBuilder s = new StringBuilder();
        for (char r = 'a'; r <= last; r++) {
            s.append("room r").append(r).append(";");
        }
        for (int i = 0; i < gates.length; i++) {
            s.append("man m").append((char) ('a' + i)).append(" lets not all bribe ").append(gates[i].substring(2)).append(" tires 9;");
            s.append("gate r").append(gates[i].charAt(0)).append(" r").append(gates[i].charAt(1)).append(" by m").append((char) ('a' + i)).append(";");
        }
        s.append("person p at ra to r").append(to).append(" coins 50 tact 0;");
        return Check.told(s.toString());
    }

    private static void way(Check c, String name, TenthMan x, int costs, int... gates) {
        c.due(name + " costs", costs, x.way(0, -1));
        c.due(name + " gates", costs < 0 ? -1 : gates.length, x.way(0, 20));
        for (int k = 0; k < 14; k++) {
            c.due(name + " gate " + k, k < gates.length ? gates[k] : -1, x.way(0, k));
        }
        c.due(name + " k -2", -1, x.way(0, -2));
        c.due(name + " k 19", -1, x.way(0, 19));
        c.due(name + " k 21", -1, x.way(0, 21));
        c.due(name + " k most", -1, x.way(0, Integer.MAX_VALUE));
        c.due(name + " person 1", -1, x.way(1, -1));
        c.due(name + " person -1", -1, x.way(-1, -1));
    }

    private static void coinsFirst(Check c) {
        way(c, "three gates for less", town('d', "d", "ad9", "ab2", "bc3", "cd3"), 8, 1, 2, 3);
        way(c, "one gate for less", town('d', "d", "ad8", "ab2", "bc3", "cd4"), 8, 0);
        way(c, "more than he has", town('b', "b", "ab80"), 80, 0);
        way(c, "a bribe above 99", town('b', "b", "ab500"), 99, 0);
    }

    private static void gatesThen(Check c) {
        way(c, "fewer gates", town('d', "d", "ab1", "bd4", "ac1", "cb1", "ad5"), 5, 4);
        way(c, "fewer gates for nothing", town('d', "d", "ab0", "bc0", "cd0", "bd0"), 0, 0, 3);
    }

    private static void roomsThen(Check c) {
        way(c, "by the first room", town('d', "d", "ac1", "cd1", "ab1", "bd1"), 2, 2, 3);
        way(c, "by the first room though its coins come later", town('d', "d", "ac0", "cd2", "ab2", "bd0"), 2, 2, 3);
        way(c, "by the second room", town('e', "e", "ab1", "bd1", "bc1", "ce1", "de1"), 3, 0, 2, 3);
    }

    private static void gatesLast(Check c) {
        way(c, "by the first gate", town('b', "b", "ab7", "ba5", "ab5", "ab5"), 5, 1);
        way(c, "coins of parallel gates differ", town('c', "c", "bc3", "ab2", "ab1", "bc4", "cb3"), 4, 2, 0);
        way(c, "rooms ahead of gates", town('d', "d", "ac1", "ab1", "bd1", "cd1"), 2, 1, 2);
    }

    private static void there(Check c) {
        way(c, "he is there", town('b', "a", "ab1"), 0);
        way(c, "he is there, no gates", town('a', "a"), 0);
    }

    private static void noWay(Check c) {
        way(c, "no way", town('d', "d", "ab1", "bc1"), -1);
        way(c, "no gates", town('b', "b"), -1);
    }

    private static void bothWays(Check c) {
        way(c, "against the telling", town('c', "c", "ba3", "cb4"), 7, 0, 1);
    }

    private static void longest(Check c) {
        way(c, "nine gates", town('j', "j", "ij1", "hi1", "gh1", "fg1", "ef1", "de1", "cd1", "bc1", "ab1"), 9, 8, 7, 6, 5, 4, 3, 2, 1, 0);
        way(c, "nine dear gates", town('j', "j", "ij99", "hi99", "gh99", "fg99", "ef99", "de99", "cd99", "bc99", "ab99"), 891,
                8, 7, 6, 5, 4, 3, 2, 1, 0);
    }

    private static void reaching(Check c) {
        TenthMan x = town('e', "e", "ab0", "bc1", "bd0", "ce0");
        c.due("a, b, d", 11, x.reached(0));
        x.friend(0, 1, true);
        c.due("all", 31, x.reached(0));
        c.due("reached(1)", -1, x.reached(1));
        c.due("reached(-1)", -1, x.reached(-1));
        c.due("alone", 1, town('b', "b", "ab1").reached(0));
    }
}
