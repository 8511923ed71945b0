/** Promises 22 to 24: burglar, tact, out. */
public final class BurglarTest {
    public static void main(String[] args) {
        Check c = new Check("BurglarTest");
        burglars(c);
        leastBits(c);
        tacts(c);
        outs(c);
        c.end();
    }

    private static void burglar(Check c, String name, TenthMan x, int room, int men, int bits) {
        c.due(name + " men", men, x.burglar(0, room, 0));
        c.due(name + " bits", bits, x.burglar(0, room, 1));
    }

    private static void burglars(Check c) {
        // a -k- b -l- c -m- d for coins; a -n- d dear; e far off; the man o has no gate.
        TenthMan x = Check.told("room a;room b;room c;room d;room e;man k lets not all bribe 1 tires 2;man l lets not all bribe 0 tires 2;"
                + "man m lets not all bribe 1 tires 2;man n lets tact>90 bribe 99 tires 1;man o lets not all bribe 9 tires 1;"
                + "gate a b by k;gate b c by l;gate c d by m;gate a d by n;person p at a to d coins 9 tact 5;");
        burglar(c, "where he is", x, 0, 0, 0);
        burglar(c, "b", x, 1, 1, 1);
        burglar(c, "c for the bribe of 0 of l", x, 2, 1, 1);
        burglar(c, "d", x, 3, 1, 8);
        burglar(c, "e", x, 4, -1, -1);
        burglar(c, "no room", x, 5, -1, -1);
        burglar(c, "no room", x, -1, -1, -1);
        c.due("what 2", -1, x.burglar(0, 0, 2));
        c.due("what -1", -1, x.burglar(0, 0, -1));
        c.due("person 1", -1, x.burglar(1, 0, 0));
        c.due("person -1", -1, x.burglar(-1, 0, 0));
        x.friend(0, 0, true);
        burglar(c, "b by a friend", x, 1, 0, 0);
        burglar(c, "d by m, for k is one", x, 3, 1, 4);
        x.friend(0, 2, true);
        burglar(c, "d", x, 3, 0, 0);
        x.undo();
        x.swap(2, 3);
        burglar(c, "d by the man of gate a d now", x, 3, 1, 4);
        c.due("go makes n faint", 2, x.go(0) + 1);
    }

    private static void leastBits(Check c) {
        // Two ways of two men: those of bits 8 + 1 and those of bits 2 + 4.
        TenthMan x = Check.told("room a;room b;room c;room d;man k lets not all bribe 1 tires 2;man l lets not all bribe 1 tires 2;"
                + "man m lets not all bribe 1 tires 2;man n lets not all bribe 1 tires 1;man o lets not all bribe 1 tires 1;"
                + "gate a b by k;gate b d by n;gate a c by l;gate c d by m;gate b c by o;person p at a to d coins 9 tact 5;");
        burglar(c, "the least bits", x, 3, 2, 6);
        x.swap(2, 4);
        burglar(c, "by k and n, not by o and m", x, 3, 2, 9);
    }

    private static void tacts(Check c) {
        TenthMan x = Check.told("room a;room b;room c;man k lets tact>40 bribe 9 tires 2;man l lets not tact<61 and tact<90 bribe 9 tires 2;"
                + "man m lets tact=99 bribe 9 tires 2;gate a b by k;gate b c by l;gate a c by m;"
                + "person p at a to c coins 9 tact 5;person q at b to b coins 9 tact 5;person r at b to a coins 9 tact 5;");
        c.due("p", 61, x.tact(0));
        c.due("q is there", 0, x.tact(1));
        c.due("r", 41, x.tact(2));
        c.due("tact(3)", -1, x.tact(3));
        c.due("tact(-1)", -1, x.tact(-1));
        x.friend(0, 1, true);
        c.due("p, a friend of l", 41, x.tact(0));
        c.due("his own stays", 5, x.person(0, 3));
        x.friend(0, 2, true);
        c.due("p, a friend of m", 0, x.tact(0));
        TenthMan y = Check.told("room a;room b;man k lets tact>99 bribe 1 tires 2;man l lets tact>98 bribe 1 tires 2;gate a b by k;"
                + "person p at a to b coins 9 tact 5;");
        c.due("none is enough", -1, y.tact(0));
        TenthMan z = Check.told("room a;room b;man k lets tact>98 bribe 1 tires 2;gate a b by k;person p at a to b coins 9 tact 5;");
        c.due("the most", 99, z.tact(0));
        TenthMan w = Check.told("room a;room b;man k lets not all bribe 7-tact tires 2;gate a b by k;person p at a to b coins 9 tact 99;");
        c.due("a bribe of 0 is nothing", 7, w.tact(0));
    }

    private static void outs(Check c) {
        // a to b by 2 or 6 coins, b to c by 3, a to c by 20.
        String town = "room a;room b;room c;man k lets not all bribe 2 tires 2;man l lets not all bribe 6 tires 2;"
                + "man m lets not all bribe 3 tires 2;man n lets not all bribe 20 tires 2;gate a b by k;gate a b by l;gate b c by m;"
                + "gate a c by n;person p at a to c coins ";
        c.due("4 coins", -1, Check.told(town + "4 tact 0;").out(0));
        c.due("5 coins", 5, Check.told(town + "5 tact 0;").out(0));
        c.due("8 coins", 5, Check.told(town + "8 tact 0;").out(0));
        c.due("9 coins", 4, Check.told(town + "9 tact 0;").out(0));
        c.due("19 coins", 4, Check.told(town + "19 tact 0;").out(0));
        c.due("20 coins", 0, Check.told(town + "20 tact 0;").out(0));
        TenthMan x = Check.told(town + "5 tact 0;person q at b to b coins 0 tact 0;");
        c.due("q is there", 0, x.out(1));
        c.due("out(2)", -1, x.out(2));
        c.due("out(-1)", -1, x.out(-1));
        c.due("no way at all", -1, Check.told("room a;room b;person p at a to b coins 9 tact 9;").out(0));
    }
}
