import java.math.BigInteger;
import java.util.function.Consumer;

/** The edges of ACTS (II, promises 14 to 21), a test for each sentence that names one. */
public final class ActEdgesTest {
    private static final int[] FAR = {Integer.MIN_VALUE, -33, -2, -1, 32, 33, 255, Integer.MAX_VALUE};

    public static void main(String[] args) {
        Check c = new Check("ActEdgesTest");
        goesIfHeHasSoMany(c);
        paysAheadOfHisGoing(c);
        wishIsWhereHeCameFrom(c);
        goOfOneWhoIsThere(c);
        goRefused(c);
        hours(c);
        hoursRefused(c);
        nights(c);
        noNightBehind999(c);
        friends(c);
        friendsRefused(c);
        swaps(c);
        swapsRefused(c);
        lots(c);
        lotsWithoutGates(c);
        draws(c);
        eachActUndone(c);
        last20(c);
        undoRing(c);
        noActs(c);
        nothingToUndo(c);
        seeds(c);
        seedsRefused(c);
        c.end();
    }

    private static TenthMan purse(int coins) {
        return Check.told("room a;room b;room d;man k lets not all bribe 4 tires 9;man l lets not all bribe 5 tires 9;gate a b by k;"
                + "gate b d by l;person p at a to d coins " + coins + " tact 0;person q at a to a coins 3 tact 0;");
    }

    /** II: "He GOES it, if he has so many". */
    private static void goesIfHeHasSoMany(Check c) {
        TenthMan more = purse(10);
        c.due("a coin more", 9, more.go(0));
        c.due("one left", 1, more.person(0, 2));
        TenthMan just = purse(9);
        c.due("just so many", 9, just.go(0));
        c.due("none left", 0, just.person(0, 2));
        Twins.nothingDone(c, "a coin less", () -> purse(8), x -> x.go(0), -1);
        Twins.nothingDone(c, "none at all", () -> purse(0), x -> x.go(0), -1);
    }

    /** II: "GATE by GATE he pays what it costs ahead of his going, to the MAN; each MAN has let one more through". */
    private static void paysAheadOfHisGoing(Check c) {
        TenthMan x = Check.told("room a;room b;room d;man k lets passed=1 bribe 4+passed tires 2;man l lets not all bribe 5+passed tires 1;"
                + "man o lets not all bribe 50 tires 9;gate d b by k;gate b a by l;gate a d by o;person p at d to a coins 90 tact 0;");
        c.due("4 and 5", 9, x.go(0));
        c.due("k's purse", 4, x.man(0, 4));
        c.due("l's purse", 5, x.man(1, 4));
        c.due("o's purse", 0, x.man(2, 4));
        c.due("k has let", 1, x.man(0, 2));
        c.due("l has let", 1, x.man(1, 2));
        c.due("o has let", 0, x.man(2, 2));
        c.due("back for nothing", 0, x.go(0));
        c.due("k has let", 2, x.man(0, 2));
        c.due("purses", 9, x.has(8));
        c.due("coins", 81, x.person(0, 2));
    }

    /** II: "he is there then; the ERRAND is done, and his wish is where he came from". */
    private static void wishIsWhereHeCameFrom(Check c) {
        TenthMan x = purse(30);
        x.go(0);
        c.due("is", 2, x.person(0, 0));
        c.due("goes", 0, x.person(0, 1));
        x.go(0);
        c.due("is back", 0, x.person(0, 0));
        c.due("goes again", 2, x.person(0, 1));
        c.due("q stayed", 0, x.person(1, 0));
        TenthMan full = Full.town();
        for (int person = 1; person < 6; person++) {
            full.go(person);
            c.due("person " + person + " is", person + 1, full.person(person, 0));
            c.due("person " + person + " goes", person, full.person(person, 1));
            c.due("person " + person + " has", 9 * person, full.person(person, 2));
        }
        c.due("person 0 is", 0, full.person(0, 0));
        c.due("person 0 goes", 1, full.person(0, 1));
    }

    private static void goOfOneWhoIsThere(Check c) {
        TenthMan x = purse(30);
        c.due("costs nothing", 0, x.go(1));
        c.due("is", 0, x.person(1, 0));
        c.due("goes", 0, x.person(1, 1));
        c.due("coins", 3, x.person(1, 2));
        c.due("nobody let through", 0, x.man(0, 2));
        c.due("an act", 1, x.has(10));
    }

    /** Promise 14: "NONE, doing nothing, when there is no WAY, he can't pay, or there is none such." */
    private static void goRefused(Check c) {
        Twins.nothingDone(c, "no way", () -> {
            TenthMan x = Check.told("room a;room b;room d;man k lets all bribe 0 tires 1;gate a b by k;person p at a to d coins 99 tact 0;");
            x.hour(3);
            return x;
        }, x -> x.go(0), -1);
        for (int person : FAR) {
            Twins.nothingDone(c, "go(" + person + ")", Twins::busy, x -> x.go(person), -1);
        }
        Twins.nothingDone(c, "go(2) of two", Twins::busy, x -> x.go(2), -1);
        c.due("go(5) of six", 5, Full.town().go(5));
        c.due("go(6) of six", -1, Full.town().go(6));
        c.due("go(0) of none", -1, new TenthMan().go(0));
    }

    /** Promise 15: "The hour is another one: what it was". */
    private static void hours(Check c) {
        TenthMan x = Check.told("hour 6;");
        c.due("to 0", 6, x.hour(0));
        c.due("0", 0, x.has(4));
        c.due("to 23", 0, x.hour(23));
        c.due("23", 23, x.has(4));
        c.due("to 5", 23, x.hour(5));
        c.due("acts", 3, x.has(10));
        c.due("without a town", 0, new TenthMan().hour(23));
    }

    /** Promise 15: "NONE, doing nothing, when it can't be." */
    private static void hoursRefused(Check c) {
        Twins.nothingDone(c, "hour(24)", Twins::busy, x -> x.hour(24), -1);
        for (int hour : FAR) {
            Twins.nothingDone(c, "hour(" + hour + ")", Twins::busy, x -> x.hour(hour), -1);
        }
    }

    /** II: "A DAY ends: day is one more .. the hour 0, no MAN has let anybody through." */
    private static void nights(Check c) {
        TenthMan x = Full.town();
        x.go(5);
        x.go(1);
        x.friend(2, 3, true);
        x.hour(17);
        c.due("the day then", 1, x.night());
        c.due("day", 1, x.has(5));
        c.due("hour", 0, x.has(4));
        for (int man = 0; man < 12; man++) {
            c.due("man " + man, 0, x.man(man, 2));
        }
        c.due("purses stay", 6, x.has(8));
        TenthMan one = Check.told("room a;room b;man m lets not all bribe 7 tires 1;gate a b by m;person p at a to b coins 9 tact 0;");
        one.go(0);
        one.night();
        c.due("the first man's, too", 7, one.man(0, 4));
        c.due("friends stay", 1, x.has(9));
        c.due("people stay", 6, x.person(5, 0));
        c.due("the next", 2, x.night());
    }

    /** II: "(999 at most)"; promise 16: "NONE, doing nothing, in day 999." */
    private static void noNightBehind999(Check c) {
        TenthMan x = days(997);
        c.due("998", 998, x.night());
        c.due("999", 999, x.night());
        c.due("no more", -1, x.night());
        c.due("999 still", 999, x.has(5));
        c.due("undo", true, x.undo());
        c.due("998 again", 998, x.has(5));
        c.due("999 again", 999, x.night());
        Twins.nothingDone(c, "night in day 999", () -> {
            TenthMan y = days(998);
            y.night();
            y.hour(7);
            return y;
        }, TenthMan::night, -1);
    }

    /** A town without anything in such a day, by an image. */
    private static TenthMan days(int day) {
        TenthMan x = new TenthMan();
        int[] bytes = {day >> 8, day & 255, 4};
        int s = 157;
        for (int b : bytes) {
            s = (3 * s + b) % 247;
        }
        Check.put(x, Check.bytes(bytes[0], bytes[1], bytes[2], s));
        x.on();
        return x;
    }

    /** Promise 17: "A PERSON and a MAN are FRIENDS (is true), or not any more: true". */
    private static void friends(Check c) {
        TenthMan x = Full.town();
        c.due("begins", true, x.friend(5, 11, true));
        c.due("is so", 2048, x.person(5, 4));
        c.due("of the man", 1, x.man(11, 5));
        c.due("ends", true, x.friend(5, 11, false));
        c.due("is so no more", 0, x.person(5, 4));
        c.due("begins again", true, x.friend(5, 11, true));
        c.due("three acts", 3, x.has(10));
        TenthMan y = Check.told("room a;man m lets all bribe 1 tires 1;person p at a to a coins 1 tact 1;");
        c.due("a man without a gate", true, y.friend(0, 0, true));
    }

    /** Promise 17: "false, doing nothing, when there are none such, or it is so already". */
    private static void friendsRefused(Check c) {
        for (boolean is : new boolean[] {true, false}) {
            for (int none : FAR) {
                Twins.nothingDone(c, "person " + none, Twins::busy, x -> x.friend(none, 0, is) ? 1 : 0, 0);
                Twins.nothingDone(c, "man " + none, Twins::busy, x -> x.friend(0, none, is) ? 1 : 0, 0);
            }
            Twins.nothingDone(c, "person 2 of two", Twins::busy, x -> x.friend(2, 0, is) ? 1 : 0, 0);
            Twins.nothingDone(c, "man 3 of three", Twins::busy, x -> x.friend(0, 3, is) ? 1 : 0, 0);
        }
        Twins.nothingDone(c, "is so already", Twins::busy, x -> x.friend(0, 2, true) ? 1 : 0, 0);
        Twins.nothingDone(c, "is not so already", Twins::busy, x -> x.friend(0, 1, false) ? 1 : 0, 0);
        TenthMan full = Full.town();
        c.due("man 12 of twelve", false, full.friend(0, 12, true));
        c.due("person 6 of six", false, full.friend(6, 0, true));
    }

    /** Promise 18: "Two GATES change their MEN: true". */
    private static void swaps(Check c) {
        TenthMan x = Full.town();
        c.due("the first and the last", true, x.swap(0, 11));
        c.due("gate 0", 11, x.gate(0, 2));
        c.due("gate 11", 0, x.gate(11, 2));
        c.due("its rooms stay", 9, x.gate(11, 1));
        c.due("the other way round", true, x.swap(11, 0));
        c.due("gate 0 again", 0, x.gate(0, 2));
        c.due("gate 11 again", 11, x.gate(11, 2));
        c.due("acts", 2, x.has(10));
    }

    /** Promise 18: "false, doing nothing, when there are no two such". */
    private static void swapsRefused(Check c) {
        Twins.nothingDone(c, "swap(0, 0)", Twins::busy, x -> x.swap(0, 0) ? 1 : 0, 0);
        Twins.nothingDone(c, "swap(1, 1)", Twins::busy, x -> x.swap(1, 1) ? 1 : 0, 0);
        Twins.nothingDone(c, "swap(0, 2)", Twins::busy, x -> x.swap(0, 2) ? 1 : 0, 0);
        Twins.nothingDone(c, "swap(2, 0)", Twins::busy, x -> x.swap(2, 0) ? 1 : 0, 0);
        for (int none : FAR) {
            Twins.nothingDone(c, "swap(0, " + none + ")", Twins::busy, x -> x.swap(0, none) ? 1 : 0, 0);
            Twins.nothingDone(c, "swap(" + none + ", 1)", Twins::busy, x -> x.swap(none, 1) ? 1 : 0, 0);
            Twins.nothingDone(c, "swap of " + none, Twins::busy, x -> x.swap(none, none) ? 1 : 0, 0);
        }
        c.due("swap(11, 12) of twelve", false, Full.town().swap(11, 12));
        TenthMan one = Check.told(Full.rooms(2) + Full.men(2) + "gate ra rb by mb;");
        c.due("one gate", false, one.swap(0, 1));
        c.due("one gate with itself", false, one.swap(0, 0));
    }

    /** II: "LOTS: for each GATE from the last one down to the second, number i, a DRAW of i and 1". */
    private static void lots(Check c) {
        for (int gates = 1; gates <= 12; gates++) {
            TenthMan x = Check.told(Full.rooms(10) + Full.men(12) + Full.gates(gates));
            Lots lots = new Lots(gates, 1);
            for (int round = 0; round < 5; round++) {
                lots.cast();
                c.due(gates + " gates, round " + round, lots.men[0], x.lots());
                for (int gate = 0; gate < gates; gate++) {
                    c.due(gates + " gates, gate " + gate, lots.men[gate], x.gate(gate, 2));
                }
                c.due("an act each", round + 1, x.has(10));
            }
        }
    }

    /** LOTS by numbers that have no bound of their own. */
    private static final class Lots {
        private final int[] men;
        private BigInteger seed;

        Lots(int gates, long seed) {
            men = new int[gates];
            for (int i = 0; i < gates; i++) {
                men[i] = i;
            }
            this.seed = BigInteger.valueOf(seed);
        }

        void cast() {
            for (int i = men.length - 1; i >= 1; i--) {
                seed = seed.multiply(BigInteger.valueOf(1103515245)).add(BigInteger.valueOf(12345)).mod(BigInteger.TWO.pow(31));
                int with = seed.divide(BigInteger.valueOf(64)).mod(BigInteger.valueOf(i + 1)).intValue();
                int man = men[i];
                men[i] = men[with];
                men[with] = man;
            }
        }
    }

    /** Promise 19: "NONE, doing nothing, without GATES". */
    private static void lotsWithoutGates(Check c) {
        Twins.nothingDone(c, "lots without gates", () -> {
            TenthMan x = Check.told(Full.rooms(10) + Full.men(12) + Full.people(6));
            x.hour(5);
            Check.put(x, Check.bytes(Full.rooms(2) + Full.men(2) + Full.gates(1) + "gate ra rb by mb;"));
            return x;
        }, TenthMan::lots, -1);
        // The seed stays, too: a town with gates told behind it draws as at first.
        TenthMan x = new TenthMan();
        c.due("lots of nothing", -1, x.lots());
        Check.town(x, Full.text());
        Lots lots = new Lots(12, 1);
        lots.cast();
        c.due("as at first", lots.men[0], x.lots());
        c.due("and the last gate", lots.men[11], x.gate(11, 2));
    }

    /** II: "x (the seed) becomes (1103515245 x + 12345) mod 2 to the 31; floor(x / 64) mod m". */
    private static void draws(Check c) {
        int[] seeds = {0, 1, 2, 63, 64, 12345, 1 << 30, (1 << 30) - 1, 1103515245, Integer.MAX_VALUE - 1, Integer.MAX_VALUE};
        for (int seed : seeds) {
            TenthMan x = Full.town();
            c.due("seed(" + seed + ")", true, x.seed(seed));
            Lots lots = new Lots(12, seed);
            for (int round = 0; round < 3; round++) {
                lots.cast();
                c.due("seed " + seed + ", round " + round, lots.men[0], x.lots());
                for (int gate = 0; gate < 12; gate++) {
                    c.due("seed " + seed + ", gate " + gate, lots.men[gate], x.gate(gate, 2));
                }
            }
        }
    }

    /** II: "ACTS: one goes; an hour; a DAY ends; a friendship begins, or ends; two GATES change their MEN; LOTS". */
    private static void eachActUndone(Check c) {
        undone(c, "one goes", x -> x.go(0));
        undone(c, "another goes", x -> x.go(1));
        undone(c, "an hour", x -> x.hour(0));
        undone(c, "a day ends", TenthMan::night);
        undone(c, "a friendship begins", x -> x.friend(0, 1, true));
        undone(c, "a friendship ends", x -> x.friend(0, 2, false));
        undone(c, "two gates", x -> x.swap(0, 1));
        undone(c, "lots", TenthMan::lots);
    }

    private static void undone(Check c, String name, Consumer<TenthMan> act) {
        TenthMan x = Twins.busy();
        String before = Twins.picture(x);
        int acts = x.has(10);
        act.accept(x);
        c.due(name + " is an act", acts + 1, x.has(10));
        String then = Twins.picture(x);
        c.due(name + " changes something", false, before.equals(then));
        c.due(name + " undone", true, x.undo());
        c.due(name + ": [" + before + "] is [" + Twins.picture(x) + "]", true, before.equals(Twins.picture(x)));
        c.due(name + ": the tape stays", 16, Twins.tapeLength(x));
    }

    /** II: "The last 20 can be undone"; promise 20: "false when none can be". */
    private static void last20(Check c) {
        for (int acts : new int[] {1, 19, 20, 21, 22, 39, 40, 41, 45}) {
            TenthMan x = Full.town();
            for (int i = 0; i < acts; i++) {
                x.swap(0, 1);
                x.undo();
                x.night();
            }
            int can = Math.min(acts, 20);
            c.due(acts + " acts", can, x.has(10));
            for (int i = 1; i <= can; i++) {
                c.due("undo " + i + " of " + acts, true, x.undo());
                c.due("the day behind it", acts - i, x.has(5));
            }
            c.due("none can be behind " + acts, false, x.undo());
            c.due("the day stays", acts - can, x.has(5));
        }
    }

    /** Acts behind undos take the places of those undone. */
    private static void undoRing(Check c) {
        TenthMan x = new TenthMan();
        for (int i = 0; i < 20; i++) {
            x.night();
        }
        for (int i = 0; i < 5; i++) {
            x.undo();
        }
        c.due("day 15", 15, x.has(5));
        for (int i = 0; i < 8; i++) {
            x.hour(i + 1);
        }
        c.due("20 of 23", 20, x.has(10));
        for (int i = 7; i >= 1; i--) {
            c.due("undo", true, x.undo());
            c.due("hour " + i, i, x.has(4));
        }
        c.due("undo", true, x.undo());
        c.due("hour 0", 0, x.has(4));
        for (int day = 14; day >= 3; day--) {
            c.due("undo", true, x.undo());
            c.due("day " + day, day, x.has(5));
        }
        c.due("no more", false, x.undo());
        c.due("day 3", 3, x.has(5));
    }

    /** What is no ACT, and can't be undone. */
    private static void noActs(Check c) {
        TenthMan x = Twins.busy();
        int acts = x.has(10);
        x.seed(5);
        x.image();
        x.end(0);
        Check.put(x, Check.bytes(6, 0, 0));
        x.see();
        x.feed(1, 2, 3, 4, 5);
        x.on();
        x.way(0, -1);
        x.stand(0);
        x.exchange(0);
        x.fire(1);
        x.tact(0);
        x.out(0);
        x.burglar(0, 1, 1);
        c.due("as many acts", acts, x.has(10));
    }

    /** Promise 20: "false when none can be". */
    private static void nothingToUndo(Check c) {
        c.due("of a new one", false, new TenthMan().undo());
        Twins.nothingDone(c, "undo of none", () -> {
            TenthMan x = Twins.busy();
            while (x.undo()) {
                c.due("an act undone", true, x.has(10) >= 0);
            }
            return x;
        }, x -> x.undo() ? 1 : 0, 0);
    }

    /** Promise 21: "The seed: true"; "(It is 1 at first.)"; promise 20: "(the seed stays)". */
    private static void seeds(Check c) {
        for (int seed : new int[] {0, 1, Integer.MAX_VALUE}) {
            c.due("seed(" + seed + ")", true, new TenthMan().seed(seed));
        }
        TenthMan first = Full.town();
        TenthMan one = Full.town();
        one.seed(1);
        c.due("1 at first", one.lots(), first.lots());
        for (int gate = 0; gate < 12; gate++) {
            c.due("gate " + gate, one.gate(gate, 2), first.gate(gate, 2));
        }
        Lots lots = new Lots(12, 1);
        lots.cast();
        c.due("undo", true, first.undo());
        for (int gate = 0; gate < 12; gate++) {
            lots.men[gate] = gate;
            c.due("gate " + gate + " as told", gate, first.gate(gate, 2));
        }
        lots.cast();
        first.lots();
        for (int gate = 0; gate < 12; gate++) {
            c.due("gate " + gate + " by the seed that stayed", lots.men[gate], first.gate(gate, 2));
        }
    }

    /** Promise 21: "false when it is below 0". */
    private static void seedsRefused(Check c) {
        for (int seed : new int[] {-1, -2, -65536, Integer.MIN_VALUE}) {
            Twins.nothingDone(c, "seed(" + seed + ")", Twins::busy, x -> x.seed(seed) ? 1 : 0, 0);
            TenthMan x = Full.town();
            x.seed(seed);
            c.due("lots behind seed(" + seed + ")", Full.town().lots(), x.lots());
        }
    }
}
