/** Promises 14 to 21: go, hour, night, friend, swap, lots, undo, seed. */
public final class ActsTest {
    private static final String TOWN = "room a;room b;room c;man k lets not all bribe 3 tires 2;man l lets not all bribe 4+passed tires 9;"
            + "man m lets not all bribe 9 tires 9;gate a b by k;gate b c by l;person p at a to c coins 20 tact 0;"
            + "person q at c to c coins 1 tact 0;person r at b to c coins 3 tact 0;";

    public static void main(String[] args) {
        Check c = new Check("ActsTest");
        going(c);
        counting(c);
        hours(c);
        nights(c);
        friends(c);
        swaps(c);
        lots(c);
        undos(c);
        undoAll(c);
        seeds(c);
        c.end();
    }

    private static void person(Check c, String when, TenthMan x, int p, int... want) {
        for (int i = 0; i < want.length; i++) {
            c.due(when + " person(" + p + "," + i + ")", want[i], x.person(p, i));
        }
    }

    private static void going(Check c) {
        TenthMan x = Check.told(TOWN);
        c.due("go(3)", -1, x.go(3));
        c.due("go(-1)", -1, x.go(-1));
        c.due("r can't pay", -1, x.go(2));
        c.due("nothing done", 0, x.has(10));
        c.due("p goes", 7, x.go(0));
        person(c, "gone", x, 0, 2, 0, 13, 0, 0);
        c.due("k's purse", 3, x.man(0, 4));
        c.due("l's purse", 4, x.man(1, 4));
        c.due("k has let", 1, x.man(0, 2));
        c.due("l has let", 1, x.man(1, 2));
        c.due("m has let", 0, x.man(2, 2));
        c.due("p goes back for more", 8, x.go(0));
        person(c, "back", x, 0, 0, 2, 5, 0, 0);
        c.due("k has fainted", 1, x.man(0, 3));
        c.due("l alone is paid", 6, x.way(0, -1));
        c.due("p can't pay", -1, x.go(0));
        c.due("q is there", 0, x.go(1));
        person(c, "q", x, 1, 2, 2, 1, 0, 0);
        c.due("an act all the same", 3, x.has(10));
        TenthMan y = Check.told("room a;room b;person p at a to b coins 9 tact 9;");
        c.due("no way", -1, y.go(0));
        c.due("no act", 0, y.has(10));
        TenthMan z = Check.told("room a;room b;man m lets not all bribe 9 tires 3;gate a b by m;person p at a to b coins 9 tact 9;");
        c.due("with his last coin", 9, z.go(0));
        c.due("none left", 0, z.person(0, 2));
    }

    /** 200 at most are counted. */
    private static void counting(Check c) {
        TenthMan x = Check.told("room a;room b;man m lets all bribe passed tires 20;gate a b by m;person p at a to b coins 0 tact 0;");
        for (int i = 1; i <= 203; i++) {
            x.go(0);
            if (i == 19 || i == 20 || i >= 198) {
                c.due("after " + i, Math.min(i, 200), x.man(0, 2));
                c.due("fainted after " + i, i >= 20 ? 1 : 0, x.has(6));
            }
        }
        c.due("20 acts", 20, x.has(10));
    }

    private static void hours(Check c) {
        TenthMan x = Check.told(TOWN + "hour 6;");
        c.due("hour(0)", 6, x.hour(0));
        c.due("hour(23)", 0, x.hour(23));
        c.due("hour(24)", -1, x.hour(24));
        c.due("hour(-1)", -1, x.hour(-1));
        c.due("hour(least)", -1, x.hour(Integer.MIN_VALUE));
        c.due("hour", 23, x.has(4));
        c.due("the same one", 23, x.hour(23));
        c.due("three acts", 3, x.has(10));
    }

    private static void nights(Check c) {
        TenthMan x = Check.told(TOWN);
        x.go(0);
        x.hour(5);
        c.due("night", 1, x.night());
        c.due("hour", 0, x.has(4));
        c.due("k", 0, x.man(0, 2));
        c.due("l", 0, x.man(1, 2));
        c.due("purses stay", 7, x.has(8));
        c.due("undo", true, x.undo());
        c.due("day", 0, x.has(5));
        c.due("hour again", 5, x.has(4));
        c.due("k again", 1, x.man(0, 2));
        TenthMan y = new TenthMan();
        Check.put(y, Check.bytes(3, 230, 0, sum(3, 230, 0)));
        c.due("day 998", true, y.on());
        c.due("night 999", 999, y.night());
        c.due("no night 1000", -1, y.night());
        c.due("one act", 1, y.has(10));
        c.due("day", 999, y.has(5));
    }

    private static int sum(int... bytes) {
        int s = 157;
        for (int b : bytes) {
            s = (3 * s + b) % 247;
        }
        return s;
    }

    private static void friends(Check c) {
        TenthMan x = Check.told(TOWN);
        c.due("no friend to end", false, x.friend(0, 0, false));
        c.due("begins", true, x.friend(0, 2, true));
        c.due("is so already", false, x.friend(0, 2, true));
        c.due("bits", 4, x.person(0, 4));
        c.due("ends", true, x.friend(0, 2, false));
        c.due("bits", 0, x.person(0, 4));
        c.due("person 3", false, x.friend(3, 0, true));
        c.due("person -1", false, x.friend(-1, 0, true));
        c.due("man 3", false, x.friend(0, 3, true));
        c.due("man -1", false, x.friend(0, -1, true));
        c.due("man 32", false, x.friend(0, 32, true));
        c.due("acts", 2, x.has(10));
    }

    private static void swaps(Check c) {
        TenthMan x = Check.told(TOWN);
        c.due("swap", true, x.swap(1, 0));
        c.due("gate 0", 1, x.gate(0, 2));
        c.due("gate 1", 0, x.gate(1, 2));
        c.due("rooms stay", 1, x.gate(0, 1));
        c.due("the same", false, x.swap(1, 1));
        c.due("none such", false, x.swap(0, 2));
        c.due("none such", false, x.swap(-1, 0));
        c.due("one act", 1, x.has(10));
        c.due("man k's gate", 1, x.man(0, 0));
    }

    private static void lots(Check c) {
        String five = "room a;room b;";
        for (char m = 'k'; m < 'p'; m++) {
            five += "man " + m + " lets all bribe 0 tires 1;gate a b by " + m + ";";
        }
        TenthMan x = Check.told(five);
        int[] men = {0, 1, 2, 3, 4};
        long seed = 1;
        for (int round = 0; round < 6; round++) {
            for (int i = 4; i > 0; i--) {
                seed = (1103515245L * seed + 12345L) % 2147483648L;
                int with = (int) (seed / 64 % (i + 1));
                int kept = men[i];
                men[i] = men[with];
                men[with] = kept;
            }
            c.due("lots " + round, men[0], x.lots());
            for (int g = 0; g < 5; g++) {
                c.due("lots " + round + " gate " + g, men[g], x.gate(g, 2));
            }
        }
        c.due("acts", 6, x.has(10));
        c.due("no gates", -1, Check.told("room a;man k lets all bribe 0 tires 1;").lots());
        TenthMan one = Check.told("room a;room b;man k lets all bribe 0 tires 1;man l lets all bribe 0 tires 1;gate a b by l;");
        c.due("one gate", 1, one.lots());
        c.due("is an act", 1, one.has(10));
    }

    private static void undos(Check c) {
        TenthMan x = Check.told(TOWN);
        for (int i = 1; i <= 22; i++) {
            x.hour(i);
        }
        c.due("20 at most", 20, x.has(10));
        for (int i = 21; i >= 2; i--) {
            c.due("undo to " + i, true, x.undo());
            c.due("hour", i, x.has(4));
        }
        c.due("no more", false, x.undo());
        c.due("hour 2", 2, x.has(4));
        c.due("none", 0, x.has(10));
        x.hour(9);
        c.due("one", 1, x.has(10));
        c.due("undo", true, x.undo());
        c.due("hour 2", 2, x.has(4));
    }

    private static void undoAll(Check c) {
        TenthMan x = Check.told(TOWN + "hour 8;");
        x.image();
        int[] before = new int[60];
        for (int k = 0; k < 60; k++) {
            before[k] = x.octet(k);
        }
        x.go(0);
        x.hour(3);
        x.go(1);
        x.friend(2, 1, true);
        x.go(2);
        x.swap(0, 1);
        x.seed(5);
        x.lots();
        x.night();
        x.friend(2, 1, false);
        for (int i = 0; i < 9; i++) {
            c.due("undo " + i, true, x.undo());
        }
        c.due("no more", false, x.undo());
        x.image();
        for (int k = 0; k < 60; k++) {
            c.due("as before, byte " + k, before[k], x.octet(k));
        }
    }

    private static void seeds(Check c) {
        String town = "room a;room b;man k lets all bribe 1 tires 3;man l lets all bribe 1 tires 3;gate a b by k;gate a b by l;";
        TenthMan x = Check.told(town);
        c.due("seed -1", false, x.seed(-1));
        c.due("seed least", false, x.seed(Integer.MIN_VALUE));
        c.due("lots of 1", 1, x.lots());
        c.due("undo leaves the seed", true, x.undo());
        // The second draw of seed 1 is odd: gate 1 with itself.
        c.due("lots go on", 0, x.lots());
        c.due("seed 1", true, x.seed(1));
        c.due("no act", 1, x.has(10));
        c.due("lots of 1 again", 1, x.lots());
        // 12345 / 64 = 192, even: gate 1 with gate 0.
        c.due("seed 0", true, x.seed(0));
        c.due("lots of 0", 0, x.lots());
        c.due("seed most", true, x.seed(Integer.MAX_VALUE));
        // -1103515245 + 12345 mod 2 to the 31 = 1043980748; / 64 = 16312199, odd.
        c.due("lots of the most", 0, x.lots());
    }
}
