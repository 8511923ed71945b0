/** The edges of burglars, tact, what keeps one out and standings (III, promises 22 to 26). */
public final class TrialEdgesTest {
    private static final int[] FAR = {Integer.MIN_VALUE, -33, -3, -2, 32, 33, 255, Integer.MAX_VALUE};

    public static void main(String[] args) {
        Check c = new Check("TrialEdgesTest");
        whereHeIs(c);
        fewestMenAheadOfBits(c);
        leastBits(c);
        moreThanAre(c);
        allMenOfTheLongestWay(c);
        noneAreEnough(c);
        burglarOfOthers(c);
        leastTact(c);
        inPlaceOfHisOwn(c);
        noTactIsEnough(c);
        keptOut(c);
        keptOutRefused(c);
        mostPeople(c);
        fewestCoins(c);
        firstByMen(c);
        firstAndLastOrder(c);
        sixGatesAtMost(c);
        standOfOthers(c);
        standAsAllIsNow(c);
        fromNowOn(c);
        bestExchange(c);
        firstExchange(c);
        onlyIfBetter(c);
        exchangesOfTwelve(c);
        exchangeOfOthers(c);
        c.end();
    }

    private static void burglar(Check c, String name, TenthMan x, int person, int room, int men, int bits) {
        c.due(name + ": men", men, x.burglar(person, room, 0));
        c.due(name + ": bits", bits, x.burglar(person, room, 1));
    }

    private static void whereHeIs(Check c) {
        TenthMan x = Full.town();
        for (int person = 0; person < 6; person++) {
            burglar(c, "where he is", x, person, person, 0, 0);
        }
        burglar(c, "no gates", Check.told("room a;person p at a to a coins 1 tact 1;"), 0, 0, 0, 0);
    }

    /** III: "BURGLAR: the fewest MEN (of GATES) who must be his FRIENDS". */
    private static void fewestMenAheadOfBits(Check c) {
        // From ra to rj: man 11 alone, or men 1 to 8 (man 0 wants nothing).
        TenthMan x = Full.town();
        burglar(c, "one man of the highest bit", x, 0, 9, 1, 2048);
        burglar(c, "rc", x, 0, 2, 1, 2);
        burglar(c, "rd", x, 0, 3, 2, 6);
        burglar(c, "ri", x, 0, 8, 1, 1024);
        burglar(c, "rh", x, 0, 7, 1, 512);
        burglar(c, "from rf to ra", x, 5, 0, 3, 512 + 64 + 32);
    }

    /** III: "of like ones the least bits". */
    private static void leastBits(Check c) {
        String men = "man k lets not all bribe 1 tires 9;man l lets not all bribe 1 tires 9;man m lets not all bribe 1 tires 9;"
                + "man n lets not all bribe 1 tires 9;";
        TenthMan x = Check.told("room a;room b;room d;" + men + "gate a b by n;gate b d by k;gate a b by m;gate b d by l;"
                + "person p at a to d coins 0 tact 0;");
        burglar(c, "the least at each step", x, 0, 2, 2, 5);
        TenthMan y = Check.told("room a;room b;room d;room e;" + men + "gate a b by k;gate b e by n;gate a d by l;gate d e by m;"
                + "person p at a to e coins 0 tact 0;");
        burglar(c, "2 and 4, not 1 and 8", y, 0, 3, 2, 6);
        y.swap(1, 2);
        burglar(c, "1 and 2, not 4 and 8", y, 0, 3, 2, 3);
        TenthMan z = Check.told("room a;room b;" + men + "gate a b by n;gate a b by l;gate a b by m;person p at a to b coins 0 tact 0;");
        burglar(c, "the least of three, not the first gate's", z, 0, 1, 1, 2);
    }

    /** III: "more than are". */
    private static void moreThanAre(Check c) {
        TenthMan x = Check.told("room a;room b;room d;man k lets not all bribe 1 tires 1;man l lets tact=7 bribe 1 tires 9;"
                + "man m lets not all bribe 1 tires 9;gate a b by k;gate b d by l;gate a d by m;"
                + "person p at a to d coins 5 tact 0;person q at a to d coins 5 tact 7;");
        burglar(c, "m", x, 0, 2, 1, 4);
        burglar(c, "q: k, for l lets him", x, 1, 2, 1, 1);
        x.friend(0, 0, true);
        burglar(c, "p: l, for k is one", x, 0, 2, 1, 2);
        x.friend(0, 1, true);
        burglar(c, "p: none more", x, 0, 2, 0, 0);
        x.go(0);
        burglar(c, "q: none, for k has fainted", x, 1, 2, 0, 0);
    }

    private static void allMenOfTheLongestWay(Check c) {
        String men = Full.men(12).replaceAll("bribe \\d+", "bribe 1");
        TenthMan x = Check.told(Full.rooms(10) + men + Full.gates(9) + "person p at ra to rj coins 0 tact 0;");
        burglar(c, "nine men", x, 0, 9, 9, 511);
        TenthMan y = Check.told(Full.rooms(10) + men + Full.gates(9).replace("ma", "ml").replace("mb", "mk") + "person p at rj to ra coins 0 tact 0;");
        burglar(c, "nine men of higher bits", y, 0, 0, 9, 2048 + 1024 + 511 - 3);
    }

    /** Promise 22: "NONE when none are enough". */
    private static void noneAreEnough(Check c) {
        TenthMan x = Check.told(Full.rooms(4) + Full.men(4) + "gate ra rb by ma;gate rc rd by mb;person p at ra to rd coins 9 tact 9;");
        burglar(c, "a room without a way", x, 0, 2, -1, -1);
        burglar(c, "another", x, 0, 3, -1, -1);
        burglar(c, "a room with one", x, 0, 1, 0, 0);
        TenthMan y = Check.told(Full.rooms(2) + Full.men(2) + "person p at ra to rb coins 9 tact 9;");
        burglar(c, "no gates", y, 0, 1, -1, -1);
    }

    /** Promise 22: "there are none such, or for others". */
    private static void burglarOfOthers(Check c) {
        TenthMan x = Full.town();
        for (int none : FAR) {
            burglar(c, "person " + none, x, none, 0, -1, -1);
            burglar(c, "room " + none, x, 0, none, -1, -1);
            c.due("what " + none, -1, x.burglar(0, 1, none));
        }
        burglar(c, "person -1", x, -1, 0, -1, -1);
        burglar(c, "person 6", x, 6, 0, -1, -1);
        burglar(c, "room -1", x, 0, -1, -1, -1);
        burglar(c, "room 10", x, 0, 10, -1, -1);
        c.due("what -1", -1, x.burglar(0, 0, -1));
        c.due("what 2", -1, x.burglar(0, 0, 2));
        burglar(c, "the last of each", x, 5, 9, 4, 224 + 256);
        TenthMan few = Check.told("room a;room b;person p at a to a coins 1 tact 1;");
        burglar(c, "room 2 of two", few, 0, 2, -1, -1);
        burglar(c, "person 1 of one", few, 1, 0, -1, -1);
    }

    private static TenthMan tacts(String test) {
        return Check.told("room a;room b;man k lets " + test + " bribe 5 tires 1;gate a b by k;person p at a to b coins 9 tact 50;"
                + "person q at b to b coins 0 tact 99;");
    }

    /** III: "TACT: the least tact (0 .. 99 ..) by which a PERSON comes where he goes for nothing." */
    private static void leastTact(Check c) {
        c.due("0", 0, tacts("all").tact(0));
        c.due("0 by its number", 0, tacts("tact=0").tact(0));
        c.due("1", 1, tacts("tact>0").tact(0));
        c.due("98", 98, tacts("tact>97").tact(0));
        c.due("99", 99, tacts("tact=99").tact(0));
        c.due("the least of two", 3, tacts("tact=70 or tact=3").tact(0));
        c.due("there", 0, tacts("not all").tact(1));
        TenthMan x = Check.told("room a;room b;room d;man k lets tact>10 bribe 5 tires 1;man l lets tact<21 bribe 5 tires 1;"
                + "man m lets tact=60 bribe 5 tires 1;gate a b by k;gate b d by l;gate a d by m;"
                + "person p at a to d coins 9 tact 50;person q at b to a coins 9 tact 50;person r at d to b coins 9 tact 0;");
        c.due("both men at once", 11, x.tact(0));
        c.due("another person", 11, x.tact(1));
        c.due("a third", 0, x.tact(2));
        c.due("a bribe that comes to nothing", 6, Check.told("room a;room b;man k lets not all bribe 6-tact tires 1;gate a b by k;"
                + "person p at a to b coins 9 tact 0;").tact(0));
    }

    /** III: "in place of his own" (which stays). */
    private static void inPlaceOfHisOwn(Check c) {
        TenthMan x = tacts("tact<50");
        c.due("less than his own", 0, x.tact(0));
        c.due("his own stays", 50, x.person(0, 3));
        c.due("and counts", 5, x.lets(0, 0));
        TenthMan friend = tacts("tact=99");
        friend.friend(0, 0, true);
        c.due("a friend needs none", 0, friend.tact(0));
        TenthMan fainted = tacts("tact=99");
        fainted.go(0);
        c.due("nor one behind whom he has fainted", 0, fainted.tact(0));
    }

    /** Promise 23: "NONE when none is enough, or there is none such." */
    private static void noTactIsEnough(Check c) {
        c.due("tact>99", -1, tacts("tact>99").tact(0));
        c.due("tact=100", -1, tacts("tact=100").tact(0));
        c.due("not all", -1, tacts("not all").tact(0));
        c.due("no way", -1, Check.told("room a;room b;person p at a to b coins 9 tact 9;").tact(0));
        TenthMan x = tacts("all");
        for (int person : FAR) {
            c.due("tact(" + person + ")", -1, x.tact(person));
        }
        c.due("tact(-1)", -1, x.tact(-1));
        c.due("tact(2) of two", -1, x.tact(2));
        c.due("tact(6) of six", -1, Full.town().tact(6));
        c.due("tact(0) of six", 0, Full.town().tact(0));
        c.due("tact(5) of six", -1, Full.town().tact(5));
    }

    /** III: "KEPT OUT: GATES that, taken away alone, leave a PERSON no WAY that he can pay." */
    private static void keptOut(Check c) {
        String town = "room a;room b;room d;man k lets not all bribe 2 tires 9;man l lets not all bribe 6 tires 9;"
                + "man m lets not all bribe 3 tires 9;man n lets not all bribe 20 tires 9;gate a b by k;gate a b by l;gate b d by m;"
                + "gate a d by n;person o at d to d coins 0 tact 0;person p at a to d coins ";
        int[][] rows = {{5, 5}, {8, 5}, {9, 4}, {19, 4}, {20, 0}, {21, 0}};
        for (int[] row : rows) {
            c.due(row[0] + " coins", row[1], Check.told(town + row[0] + " tact 0;").out(1));
        }
        TenthMan x = Check.told(town + "5 tact 0;");
        c.due("he is there", 0, x.out(0));
        c.due("asked again", 5, x.out(1));
        c.due("his way stays", 5, x.way(1, -1));
        TenthMan line = Check.told(Full.rooms(10) + Full.men(12) + Full.gates(9) + "person p at ra to rj coins 36 tact 0;");
        c.due("each gate of a row", 511, line.out(0));
        TenthMan last = Check.told(Full.rooms(10) + Full.men(12) + Full.gates(12) + "person o at ra to ra coins 99 tact 0;"
                + "person p at ra to rj coins 11 tact 0;");
        c.due("gate 11", 2048, last.out(1));
    }

    /** Promise 24: "NONE when there is none such, or he has no WAY that he can pay." */
    private static void keptOutRefused(Check c) {
        String town = "room a;room b;room d;man k lets not all bribe 7 tires 9;gate a b by k;person p at a to b coins ";
        c.due("6 coins of 7", -1, Check.told(town + "6 tact 0;").out(0));
        c.due("7 coins of 7", 1, Check.told(town + "7 tact 0;").out(0));
        c.due("no way at all", -1, Check.told(town.replace("to b", "to d") + "999 tact 0;").out(0));
        TenthMan x = Full.town();
        for (int person : FAR) {
            c.due("out(" + person + ")", -1, x.out(person));
        }
        c.due("out(-1)", -1, x.out(-1));
        c.due("out(6) of six", -1, x.out(6));
        // Round by ra and rh it costs him 25 of his 50; person 1 would pay more than 15 of his 10.
        c.due("out(5) of six", 0, x.out(5));
        c.due("out(1) of six", 2, x.out(1));
        c.due("out(0) of none", -1, new TenthMan().out(0));
    }

    private static String man(char name, String test, int bribe) {
        return "man " + name + " lets " + test + " bribe " + bribe + " tires 9;";
    }

    private static void stand(Check c, String name, TenthMan x, int people, int coins, int... men) {
        c.due(name + ": people", people, x.stand(-1));
        c.due(name + ": coins", coins, x.stand(20));
        for (int gate = 0; gate < 20; gate++) {
            c.due(name + ": man of gate " + gate, gate < men.length ? men[gate] : -1, x.stand(gate));
        }
    }

    private static void exchange(Check c, String name, TenthMan x, int people, int coins, int exchanges, int... men) {
        c.due(name + ": people by exchanges", people, x.exchange(-1));
        c.due(name + ": coins by exchanges", coins, x.exchange(20));
        c.due(name + ": exchanges", exchanges, x.exchange(21));
        for (int gate = 0; gate < 20; gate++) {
            c.due(name + ": exchanged man of gate " + gate, gate < men.length ? men[gate] : -1, x.exchange(gate));
        }
    }

    /** Rooms a, b, d in a row by two gates: p from a to b, q from b to d. */
    private static TenthMan row(String first, String second, String men, int coins) {
        return Check.told("room a;room b;room d;" + men + "gate a b by " + first + ";gate b d by " + second + ";person p at a to b coins "
                + coins + " tact 0;person q at b to d coins " + coins + " tact 0;");
    }

    /** III: "that by which the most PEOPLE have a WAY from where they are that they can pay" (just, or by a coin not). */
    private static void mostPeople(Check c) {
        String men = man('k', "who=1", 5) + man('l', "who=0", 5);
        stand(c, "each for nothing", row("k", "l", men, 4), 2, 0, 1, 0);
        stand(c, "they can pay just so", row("k", "l", man('k', "not all", 5) + man('l', "not all", 6), 5), 1, 5, 0, 1);
        stand(c, "more people for more coins", row("k", "l", man('k', "who=0", 5) + man('l', "who=0", 9), 5), 2, 5, 1, 0);
    }

    /** III: "of like ones the fewest COINS of those together" (of such as can't pay none count). */
    private static void fewestCoins(Check c) {
        String men = man('k', "who=1", 5) + man('l', "who=0", 5);
        stand(c, "for nothing, not for ten", row("k", "l", men, 50), 2, 0, 1, 0);
        stand(c, "one pays, one can't", row("k", "l", man('k', "not all", 9) + man('l', "not all", 3), 8), 1, 3, 0, 1);
        stand(c, "nobody pays", row("l", "k", man('k', "not all", 9) + man('l', "not all", 9), 8), 0, 0, 0, 1);
        stand(c, "the second order for a coin less", row("k", "l", man('k', "who=1", 5) + man('l', "who=1", 4), 50), 2, 4, 1, 0);
    }

    /** III: "of like ones the first by GATES (by MEN's numbers)". */
    private static void firstByMen(Check c) {
        TenthMan x = row("m", "k", man('k', "not all", 3) + man('l', "not all", 3) + man('m', "not all", 3), 9);
        stand(c, "all alike: k, m (l has no gate)", x, 2, 6, 0, 2);
        c.due("they stay where they are", 2, x.gate(0, 2));
        c.due("no act", 0, x.has(10));
    }

    /** Six gates have 720 orders; the first and the last of them count. */
    private static void firstAndLastOrder(Check c) {
        StringBuilder up = new StringBuilder(Full.rooms(7));
        StringBuilder down = new StringBuilder(Full.rooms(7));
        for (int i = 0; i < 6; i++) {
            up.append("man ").append(Full.name('m', i)).append(" lets who=").append(i).append(" bribe 1 tires 1;");
            down.append("man ").append(Full.name('m', i)).append(" lets who=").append(5 - i).append(" bribe 1 tires 1;");
        }
        String behind = Full.gates(6) + Full.people(6).replaceAll("coins \\d+", "coins 0");
        stand(c, "the first order", Check.told(up + behind), 6, 0, 0, 1, 2, 3, 4, 5);
        stand(c, "the last order", Check.told(down + behind), 6, 0, 5, 4, 3, 2, 1, 0);
        TenthMan x = Check.told(down + behind);
        // Each exchange of two of the three pairs lets two more through: the first such is that of gates 0 and 5.
        exchange(c, "three exchanges", x, 6, 0, 3, 5, 4, 3, 2, 1, 0);
        TenthMan all = Check.told(up + behind);
        all.swap(0, 1);
        all.swap(2, 5);
        stand(c, "from any order", all, 6, 0, 0, 1, 2, 3, 4, 5);
        String mixed = Full.rooms(7);
        int[] at = {3, 0, 5, 1, 4, 2};
        for (int i = 0; i < 6; i++) {
            mixed += "man " + Full.name('m', i) + " lets who=" + at[i] + " bribe 1 tires 1;";
        }
        stand(c, "an order between", Check.told(mixed + behind), 6, 0, 1, 3, 5, 0, 4, 2);
    }

    /** Promise 25: "NONE with more than 6 GATES". */
    private static void sixGatesAtMost(Check c) {
        for (int gates = 0; gates <= 12; gates++) {
            TenthMan x = Check.told(Full.rooms(10) + Full.men(12) + Full.gates(gates) + "person p at ra to ra coins 0 tact 0;");
            c.due(gates + " gates: people", gates > 6 ? -1 : 1, x.stand(-1));
            c.due(gates + " gates: coins", gates > 6 ? -1 : 0, x.stand(20));
            for (int k = 0; k < 13; k++) {
                c.due(gates + " gates: stand(" + k + ")", gates > 6 || k >= gates ? -1 : k, x.stand(k));
            }
            c.due(gates + " gates: exchange people", 1, x.exchange(-1));
        }
    }

    /** Promise 25: "NONE .. for others". */
    private static void standOfOthers(Check c) {
        TenthMan x = row("k", "l", man('k', "not all", 3) + man('l', "not all", 3), 9);
        for (int k : new int[] {-2, 2, 3, 12, 19, 21, 22}) {
            c.due("stand(" + k + ")", -1, x.stand(k));
        }
        for (int k : FAR) {
            c.due("stand(" + k + ")", -1, x.stand(k));
        }
    }

    /** III: "All of this as all is now." */
    private static void standAsAllIsNow(Check c) {
        TenthMan x = row("k", "l", man('k', "hour=5", 3) + man('l', "not all", 4), 9);
        stand(c, "hour 0", x, 2, 7, 0, 1);
        x.hour(5);
        stand(c, "hour 5", x, 2, 4, 0, 1);
        x.friend(1, 0, true);
        x.friend(0, 1, true);
        x.hour(6);
        stand(c, "friends", x, 2, 0, 1, 0);
        x.undo();
        x.undo();
        x.undo();
        stand(c, "undone", x, 2, 4, 0, 1);
        x.hour(0);
        x.go(0);
        stand(c, "one has gone", x, 2, 7, 0, 1);
        x.go(1);
        x.go(1);
        stand(c, "q paid twice", x, 1, 3, 0, 1);
        x.night();
        x.image();
        byte[] bytes = new byte[24];
        for (int k = 0; k < 24; k++) {
            bytes[k] = (byte) x.octet(k);
        }
        x.friend(0, 0, true);
        stand(c, "a friend", x, 1, 0, 0, 1);
        exchange(c, "a friend", x, 1, 0, 0, 0, 1);
        Check.put(x, bytes);
        c.due("on", true, x.on());
        stand(c, "an image", x, 1, 3, 0, 1);
        exchange(c, "an image", x, 1, 3, 0, 0, 1);
    }

    /** III: "By EXCHANGES: from now on". */
    private static void fromNowOn(Check c) {
        TenthMan x = row("k", "l", man('k', "who=1", 5) + man('l', "who=0", 5), 50);
        exchange(c, "as told", x, 2, 0, 1, 1, 0);
        exchange(c, "asked again", x, 2, 0, 1, 1, 0);
        x.swap(0, 1);
        exchange(c, "changed ahead", x, 2, 0, 0, 1, 0);
        x.undo();
        exchange(c, "undone", x, 2, 0, 1, 1, 0);
        c.due("they stay where they are", 0, x.gate(0, 2));
        c.due("no act", 0, x.has(10));
    }

    /** III: "each time the two GATES .. whose MEN's exchange is best so". */
    private static void bestExchange(Check c) {
        // p from a to b by gate 0 pays 60; the best is k (0), then no exchange is better.
        TenthMan x = Check.told("room a;room b;room d;room e;" + man('n', "not all", 60) + man('l', "not all", 1) + man('k', "not all", 0)
                + "gate a b by n;gate a d by l;gate d e by k;person p at a to b coins 99 tact 0;");
        exchange(c, "the best, not the first", x, 1, 0, 1, 2, 1, 0);
        // More people count ahead of fewer coins: now p alone pays 0.
        TenthMan y = row("k", "l", man('k', "who=0", 20) + man('l', "not all", 7), 7);
        exchange(c, "two people for 7", y, 2, 7, 0, 0, 1);
        TenthMan z = row("l", "k", man('k', "who=0", 20) + man('l', "not all", 7), 7);
        exchange(c, "from one for 7 to two for 7", z, 2, 7, 1, 0, 1);
    }

    /** III: "(the lesser, then the other) .. of like ones the first". */
    private static void firstExchange(Check c) {
        // Gate 1 is dear; gates 0, 2 and 3 have men alike: 0 and 1 change.
        String men = man('k', "not all", 1) + man('l', "not all", 9) + man('m', "not all", 1) + man('n', "not all", 1);
        TenthMan x = Check.told("room a;room b;room d;room e;room f;" + men + "gate d e by k;gate a b by l;gate e f by m;gate f d by n;"
                + "person p at a to b coins 99 tact 0;");
        exchange(c, "gates 0 and 1, not 1 and 2", x, 1, 1, 1, 1, 0, 2, 3);
        TenthMan y = Check.told("room a;room b;room d;room e;room f;" + men + "gate a b by l;gate d e by k;gate e f by m;gate f d by n;"
                + "person p at a to b coins 99 tact 0;");
        exchange(c, "gates 0 and 1, not 0 and 2", y, 1, 1, 1, 0, 1, 2, 3);
    }

    /** III: "if it is better". */
    private static void onlyIfBetter(Check c) {
        TenthMan x = row("l", "k", man('k', "not all", 3) + man('l', "not all", 3), 9);
        exchange(c, "as good is not better", x, 2, 6, 0, 1, 0);
        TenthMan y = row("l", "k", man('k', "not all", 4) + man('l', "not all", 3), 3);
        exchange(c, "the other one pays the same", y, 1, 3, 0, 1, 0);
        exchange(c, "no gates", Check.told("room a;person p at a to a coins 1 tact 1;"), 1, 0, 0);
        exchange(c, "one gate", Check.told("room a;room b;" + man('k', "not all", 4) + "gate a b by k;person p at a to b coins 3 tact 1;"), 0, 0, 0, 0);
    }

    /** Exchanges of as many gates as can be. */
    private static void exchangesOfTwelve(Check c) {
        TenthMan x = Check.told(Full.rooms(10) + Full.men(12) + Full.gates(12) + "person p at ra to rj coins 99 tact 0;");
        // p pays 11 at gate 11; the best is man 0 there.
        exchange(c, "gates 0 and 11", x, 1, 0, 1, 11, 1, 2, 3, 4, 5, 6, 7, 8, 9, 10, 0);
        c.due("no standing of twelve", -1, x.stand(-1));
    }

    /** Promise 26: "NONE for others". */
    private static void exchangeOfOthers(Check c) {
        TenthMan x = row("k", "l", man('k', "not all", 3) + man('l', "not all", 3), 9);
        for (int k : new int[] {-2, 2, 3, 12, 19, 22, 23}) {
            c.due("exchange(" + k + ")", -1, x.exchange(k));
        }
        for (int k : FAR) {
            c.due("exchange(" + k + ")", -1, x.exchange(k));
        }
        TenthMan full = Full.town();
        c.due("gate 11 of twelve", true, full.exchange(11) >= 0);
        c.due("gate 12 of twelve", -1, full.exchange(12));
    }
}
