/** Promises 25, 26: stand and exchange. */
public final class StandingsTest {
    public static void main(String[] args) {
        Check c = new Check("StandingsTest");
        best(c);
        likeOnes(c);
        stuck(c);
        tooManyGates(c);
        noGates(c);
        anew(c);
        c.end();
    }

    private static void stand(Check c, String name, TenthMan x, int people, int coins, int... men) {
        c.due(name + " stand people", people, x.stand(-1));
        c.due(name + " stand coins", coins, x.stand(20));
        for (int g = 0; g < 14; g++) {
            c.due(name + " stand gate " + g, g < men.length ? men[g] : -1, x.stand(g));
        }
        c.due(name + " stand(21)", -1, x.stand(21));
        c.due(name + " stand(-2)", -1, x.stand(-2));
    }

    private static void exchange(Check c, String name, TenthMan x, int people, int coins, int exchanges, int... men) {
        c.due(name + " exchange people", people, x.exchange(-1));
        c.due(name + " exchange coins", coins, x.exchange(20));
        c.due(name + " exchanges", exchanges, x.exchange(21));
        for (int g = 0; g < 14; g++) {
            c.due(name + " exchange gate " + g, g < men.length ? men[g] : -1, x.exchange(g));
        }
        c.due(name + " exchange(22)", -1, x.exchange(22));
        c.due(name + " exchange(-2)", -1, x.exchange(-2));
    }

    private static String man(char name, int bribe) {
        return "man " + name + " lets not all bribe " + bribe + " tires 5;";
    }

    private static void best(Check c) {
        // The dear man had best stand where nobody goes.
        TenthMan x = Check.told("room a;room b;room c;" + man('k', 9) + man('l', 5) + man('z', 0) + man('m', 1)
                + "gate a b by k;gate b c by l;gate a c by m;person p at a to b coins 4 tact 0;person q at b to a coins 3 tact 0;");
        // l, k, m: none; m at gate 0: both, 1 coin each.
        stand(c, "best", x, 2, 2, 3, 0, 1);
        exchange(c, "best", x, 2, 2, 1, 3, 1, 0);
        c.due("nobody moved", 0, x.gate(0, 2));
        c.due("no act", 0, x.has(10));
        // p can't pay 1 + 0 of his coins when he has none: he is not counted, nor are his coins.
        TenthMan y = Check.told("room a;room b;" + man('k', 4) + man('l', 2) + "gate a b by k;gate a b by l;"
                + "person p at a to b coins 1 tact 0;person q at b to a coins 3 tact 0;");
        stand(c, "one", y, 1, 2, 0, 1);
        exchange(c, "one", y, 1, 2, 0, 0, 1);
    }

    private static void likeOnes(Check c) {
        // Told in the order m, l, k; all for the same: the first by men's numbers for stand, no exchange at all.
        TenthMan x = Check.told("room a;room b;" + man('k', 1) + man('l', 1) + man('m', 1)
                + "gate a b by m;gate a b by l;gate a b by k;person p at a to b coins 4 tact 0;");
        stand(c, "like", x, 1, 1, 0, 1, 2);
        exchange(c, "like", x, 1, 1, 0, 2, 1, 0);
        // k at gate 0 is dear; l and m are alike: the first exchange is that of gates 0 and 1.
        TenthMan y = Check.told("room a;room b;room c;" + man('k', 5) + man('l', 1) + man('m', 1)
                + "gate a b by k;gate b c by l;gate c a by m;person p at a to b coins 9 tact 0;");
        // a - b by gate 0; round by gates 2 and 1 costs 2 already.
        stand(c, "alike", y, 1, 1, 1, 0, 2);
        exchange(c, "alike", y, 1, 1, 1, 1, 0, 2);
    }

    private static void stuck(Check c) {
        // Two steps of exchanges: first the one who brings most, then the next.
        TenthMan x = Check.told("room a;room b;room c;room d;room e;" + man('k', 0) + man('l', 1) + man('m', 50) + man('n', 60)
                + "gate a b by n;gate b c by m;gate d e by l;gate c d by k;person p at a to c coins 999 tact 0;");
        // p: 110; exchanges: n with k gives 50, n with l 51, m with k 60, m with l 61: n with k, then m with l: 1.
        exchange(c, "two steps", x, 1, 1, 2, 0, 1, 2, 3);
        stand(c, "two steps", x, 1, 1, 0, 1, 2, 3);
        // No single exchange betters it, a turn of three would.
        TenthMan y = Check.told("room a;room b;room c;room d;room e;room f;man k lets who=0 bribe 50 tires 9;man l lets who=1 bribe 50 tires 9;"
                + "man m lets who=2 bribe 50 tires 9;gate a b by l;gate c d by m;gate e f by k;"
                + "person p at a to b coins 49 tact 0;person q at c to d coins 49 tact 0;person r at e to f coins 49 tact 0;");
        stand(c, "turn", y, 3, 0, 0, 1, 2);
        exchange(c, "turn", y, 3, 0, 2, 0, 1, 2);
    }

    private static void tooManyGates(Check c) {
        StringBuilder s = new StringBuilder("room a;room b;room c;person zed at a to b coins 99 tact 0;");
        for (int i = 0; i < 7; i++) {
            s.append(man((char) ('k' + i), 10 - i)).append("gate ").append(i == 0 ? "a b" : "b c").append(" by ").append((char) ('k' + i)).append(";");
        }
        TenthMan x = Check.told(s.toString());
        c.due("stand(-1)", -1, x.stand(-1));
        c.due("stand(0)", -1, x.stand(0));
        c.due("stand(20)", -1, x.stand(20));
        exchange(c, "seven", x, 1, 4, 1, 6, 1, 2, 3, 4, 5, 0);
        TenthMan y = Check.told(s.substring(0, s.indexOf("man q")));
        stand(c, "six", y, 1, 5, 5, 0, 1, 2, 3, 4);
    }

    private static void noGates(Check c) {
        TenthMan x = Check.told("room a;room b;" + man('k', 1) + "person p at a to a coins 0 tact 0;person q at a to b coins 9 tact 0;");
        stand(c, "none", x, 1, 0);
        exchange(c, "none", x, 1, 0, 0);
    }

    /** What was found is not kept beyond a change. */
    private static void anew(Check c) {
        TenthMan x = Check.told("room a;room b;room c;man k lets hour=3 bribe 5+day tires 1;man l lets passed=1 bribe 5 tires 4;"
                + "gate a b by k;gate b c by l;person p at a to b coins 9 tact 0;");
        both(c, x, 5);
        x.hour(3);
        both(c, x, 0);
        x.undo();
        both(c, x, 5);
        x.friend(0, 0, true);
        both(c, x, 0);
        x.friend(0, 0, false);
        both(c, x, 5);
        x.go(0);
        both(c, x, 0);
        x.night();
        x.swap(0, 1);
        both(c, x, -1);
        Check.town(x, "room a;room b;" + man('k', 3) + "gate a b by k;person p at a to b coins 9 tact 0;");
        both(c, x, 3);
        x.image();
        byte[] image = new byte[14];
        for (int i = 0; i < 14; i++) {
            image[i] = (byte) x.octet(i);
        }
        x.go(0);
        x.go(0);
        both(c, x, 3);
        x.friend(0, 0, true);
        both(c, x, 0);
        Check.put(x, image);
        c.due("on", true, x.on());
        both(c, x, 3);
    }

    /** coins -1: nobody can pay. */
    private static void both(Check c, TenthMan x, int coins) {
        c.due("people", coins < 0 ? 0 : 1, x.stand(-1));
        c.due("coins", Math.max(coins, 0), x.stand(20));
        c.due("people", coins < 0 ? 0 : 1, x.exchange(-1));
        c.due("coins", Math.max(coins, 0), x.exchange(20));
    }
}
