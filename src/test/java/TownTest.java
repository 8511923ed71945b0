/** Promises 4, 5: towns and their faults. */
public final class TownTest {
    private static final String MAN = "man m lets all bribe 5 tires 1;";

    public static void main(String[] args) {
        Check c = new Check("TownTest");
        sound(c);
        texts(c);
        numbers(c);
        names(c);
        depth(c);
        tooMany(c);
        firstOfTwo(c);
        staying(c);
        c.end();
    }

    private static void sound(Check c) {
        well(c, "", 0);
        well(c, " \n ", 0);
        well(c, "hour 0;hour 23;hour 7;", 3);
        well(c, "room a ;\nroom\nb;", 2);
        well(c, "room a;" + MAN + "person p at a to a coins 0 tact 0;", 3);
        well(c, "room abcdef;", 1);
        well(c, "room rooms;room me;room a;", 3);
        well(c, "man m lets tact<5 or hour>3 and not passed=who bribe day*(1+2)/3-4 tires 0020;", 1);
        well(c, "man m lets[all]and[not[1<2]]bribe min(1,2)tires 1;", 1);
        well(c, "man m lets not not not not not not all bribe ((((((1)))))) tires 1;", 1);
        well(c, "hour 1;".repeat(80), 80);
        well(c, "hour 1;".repeat(80) + " \n", 80);
        TenthMan x = Check.told("hour 5; hour 9;");
        c.due("the last hour counts", 9, x.has(4));
        c.due("fault of another what", -1, x.fault(2));
        c.due("fault of -1", -1, x.fault(-1));
    }

    private static void texts(Check c) {
        bad(c, "x;", 1, 0);
        bad(c, ";", 1, 0);
        bad(c, "room", 1, 4);
        bad(c, "room  ", 1, 6);
        bad(c, "room a", 1, 6);
        bad(c, "room a \n", 1, 8);
        bad(c, "room by;", 1, 5);
        bad(c, "room abcdefg;", 1, 11);
        bad(c, "room abcdefghijk;", 1, 11);
        bad(c, "room personx;", 1, 11);
        bad(c, "room 5;", 1, 5);
        bad(c, "room a b;", 1, 7);
        bad(c, "room a5;", 1, 6);
        bad(c, "room A;", 1, 5);
        bad(c, "room aB;", 1, 6);
        bad(c, "Room a;", 1, 0);
        bad(c, "room\ta;", 1, 4);
        bad(c, "room \u00e9;", 1, 5);
        bad(c, "rooms a;", 1, 0);
        bad(c, "lets a;", 1, 0);
        bad(c, "12 a;", 1, 0);
        bad(c, "hour x;", 1, 5);
        bad(c, "hour5;", 1, 4);
        bad(c, "hour 12345;", 1, 9);
        bad(c, "hour 00005;", 1, 9);
        bad(c, "hour -1;", 1, 5);
        bad(c, "hour 5 5;", 1, 7);
        bad(c, "hour 5", 1, 6);
        bad(c, "man m lets bribe 5 tires 1;", 1, 11);
        bad(c, "man m lets all 5 tires 1;", 1, 15);
        bad(c, "man m lets tact bribe 5 tires 1;", 1, 16);
        bad(c, "man m lets 1<2<3 bribe 5 tires 1;", 1, 14);
        bad(c, "man m lets (1<2) bribe 5 tires 1;", 1, 13);
        bad(c, "man m lets [1] bribe 5 tires 1;", 1, 13);
        bad(c, "man m lets [all bribe 5 tires 1;", 1, 16);
        bad(c, "man m lets all] bribe 5 tires 1;", 1, 14);
        bad(c, "man m lets 1<=2 bribe 5 tires 1;", 1, 13);
        bad(c, "man m lets all bribe 5tires 1;", 1, 22);
        bad(c, "man m lets all bribe5 tires 1;", 1, 20);
        bad(c, "man m lets all bribe 12345 tires 1;", 1, 25);
        bad(c, "man m lets all bribe -5 tires 1;", 1, 21);
        bad(c, "man m lets all bribe 5- tires 1;", 1, 24);
        bad(c, "man m lets all bribe min 5 tires 1;", 1, 25);
        bad(c, "man m lets all bribe min) tires 1;", 1, 24);
        bad(c, "man m lets all bribe min(5) tires 1;", 1, 26);
        bad(c, "man m lets all bribe max(5,6,7) tires 1;", 1, 28);
        bad(c, "man m lets all bribe (5,6) tires 1;", 1, 23);
        bad(c, "man m lets all bribe all tires 1;", 1, 21);
        bad(c, "man m lets all bribe [5] tires 1;", 1, 21);
        bad(c, "man m lets all bribe foo tires 1;", 1, 21);
        bad(c, "man m lets all bribe 5 6 tires 1;", 1, 23);
        bad(c, "man m lets all and bribe 5 tires 1;", 1, 19);
        bad(c, "man m lets not bribe 5 tires 1;", 1, 15);
        bad(c, "man m lets all bribe 5;", 1, 22);
        bad(c, "man m all bribe 5 tires 1;", 1, 6);
        bad(c, "man m lets ", 1, 11);
        bad(c, "room a;room b;" + MAN + "gate a b m;", 1, 54);
        bad(c, "room a;room b;" + MAN + "gate a by m;", 1, 52);
        bad(c, "room a;person p to a;", 1, 16);
        bad(c, "room a;person p at a to a tact 5 coins 5;", 1, 26);
    }

    private static void numbers(Check c) {
        bad(c, "hour 24;", 2, 5);
        bad(c, "hour 9999;", 2, 5);
        bad(c, "man m lets all bribe 5 tires 0;", 2, 29);
        bad(c, "man m lets all bribe 5 tires 21;", 2, 29);
        bad(c, "room a;person p at a to a coins 1000 tact 5;", 2, 32);
        bad(c, "room a;person p at a to a coins 999 tact 100;", 2, 41);
        bad(c, "hour 99x", 2, 5);
        well(c, "room a;person p at a to a coins 999 tact 99;", 2);
        well(c, "man m lets all bribe 9999 tires 20;", 1);
    }

    private static void names(Check c) {
        bad(c, "room a;room a;", 3, 12);
        bad(c, "room m;" + MAN, 3, 11);
        bad(c, "room a;" + MAN + "person a at a to a coins 0 tact 0;", 3, 45);
        bad(c, "room a;" + MAN + "person m at a to a coins 0 tact 0;", 3, 45);
        bad(c, "room a;" + MAN + "person p at m to a coins 0 tact 0;", 3, 50);
        bad(c, "room a;" + MAN + "person p at a to p coins 0 tact 0;", 3, 55);
        bad(c, "room a;room b;" + MAN + "gate x b by m;", 3, 50);
        bad(c, "room a;room b;" + MAN + "gate a m by m;", 3, 52);
        bad(c, "room a;room b;" + MAN + "gate a a by m;", 3, 52);
        bad(c, "room a;room b;" + MAN + "gate a b by a;", 3, 57);
        bad(c, "room a;room b;" + MAN + "gate a b by m;gate a b by m;", 3, 71);
        bad(c, "room a;gate a b by m;room b;" + MAN, 3, 14);
        bad(c, "room ab;room a;room abc;room b;room ab;", 3, 36);
    }

    private static void depth(Check c) {
        bad(c, "man m lets not not not not not not not all bribe 5 tires 1;", 4, 35);
        bad(c, "man m lets [[[[[[[all]]]]]]] bribe 5 tires 1;", 4, 17);
        bad(c, "man m lets all bribe (((((((1))))))) tires 1;", 4, 27);
        bad(c, "man m lets not[not[((min(1,2)))<max(((3)),4)]] bribe 1 tires 1;", 4, 24);
        bad(c, "man m lets not not not not not 1<(2) and not not not not not not ( bribe", 4, 65);
        bad(c, "man m lets not not not not not not 1<2+min (3,4) bribe 5 tires 1;", 4, 43);
        well(c, "man m lets not not not not not not all and not not not not not not all bribe 5 tires 1;", 1);
        well(c, "man m lets [[[[[[all]]]]]] or [[[[[[1=1]]]]]] bribe ((((((1))))))+((((((1)))))) tires 1;", 1);
        well(c, "man m lets not not not not not 1<(2) bribe max(min(max(min(max(min(1,2),3),4),5),6),7) tires 1;", 1);
        bad(c, "man m lets not not not not not not (", 4, 35);
        bad(c, "man m lets 1 (((((((", 1, 13);
    }

    private static void tooMany(Check c) {
        StringBuilder rooms = new StringBuilder();
        for (int i = 0; i < 10; i++) {
            rooms.append("room r").append((char) ('a' + i)).append(";");
        }
        well(c, rooms.toString(), 10);
        bad(c, rooms + "room x;", 5, 80);
        bad(c, rooms + " room", 5, 81);
        bad(c, rooms + " roomx", 1, 81);
        StringBuilder men = new StringBuilder();
        for (int i = 0; i < 12; i++) {
            men.append("man m").append((char) ('a' + i)).append(" lets all bribe 0 tires 1;");
        }
        well(c, men.toString(), 12);
        bad(c, men + "man", 5, men.length());
        StringBuilder gates = new StringBuilder(rooms).append(men);
        for (int i = 0; i < 12; i++) {
            gates.append("gate ra rb by m").append((char) ('a' + i)).append(";");
        }
        well(c, gates.toString(), 34);
        bad(c, gates + "gate ra", 5, gates.length());
        StringBuilder people = new StringBuilder(rooms);
        for (int i = 0; i < 6; i++) {
            people.append("person p").append((char) ('a' + i)).append(" at ra to rb coins 1 tact 1;");
        }
        well(c, people.toString(), 16);
        bad(c, people + "person !", 5, people.length());
        String hours = "hour 1;".repeat(80);
        bad(c, hours + "hour 1;", 5, 560);
        bad(c, hours + " !", 5, 561);
        bad(c, hours + "\n;", 5, 561);
        bad(c, hours.substring(0, 559), 1, 559);
    }

    private static void firstOfTwo(Check c) {
        bad(c, "room a;room a;hour 99;", 3, 12);
        bad(c, "hour 99;room a;room a;", 2, 5);
        bad(c, "hour 99 !", 2, 5);
        bad(c, "room a!;room a;", 1, 6);
    }

    private static void staying(Check c) {
        TenthMan x = Check.told("room a;room b;man m lets all bribe 1 tires 3;gate a b by m;person p at a to b coins 9 tact 9;hour 4;");
        x.go(0);
        x.friend(0, 0, true);
        x.night();
        Check.put(x, Check.bytes(1, 0, 1));
        x.see();
        c.due("a fault", -1, Check.town(x, "room a;room a;"));
        c.due("fault", 3, x.fault(0));
        c.due("place", 12, x.fault(1));
        c.due("rooms stay", 2, x.has(0));
        c.due("day stays", 1, x.has(5));
        c.due("acts stay", 3, x.has(10));
        c.due("friends stay", 1, x.has(9));
        c.due("seen stays", 1, x.seen());
        c.due("the tape went", false, x.end(1));
        c.due("another town", 1, Check.town(x, "hour 6;"));
        c.due("fault 0", 0, x.fault(0));
        c.due("place NONE", -1, x.fault(1));
        c.due("rooms", 0, x.has(0));
        c.due("hour", 6, x.has(4));
        c.due("day", 0, x.has(5));
        c.due("friends", 0, x.has(9));
        c.due("acts", 0, x.has(10));
        c.due("seen", -1, x.seen());
        c.due("undo", false, x.undo());
        seedStays(c);
        beginsAnew(c);
        manyTowns(c);
    }

    private static void seedStays(Check c) {
        String town = "room a;room b;man k lets all bribe 1 tires 3;man l lets all bribe 1 tires 3;gate a b by k;gate a b by l;";
        // x = 1103515245 * 1 + 12345 = 1103527590; / 64 = 17242618 (even): gate 1 with gate 0.
        TenthMan x = Check.told(town);
        c.due("lots of seed 1", 1, x.lots());
        // x becomes 377401575 (mod 2 to the 31); / 64 = 5896899 (odd): gate 1 with itself.
        Check.town(x, town);
        c.due("lots go on with the seed", 0, x.lots());
    }

    private static void beginsAnew(Check c) {
        String town = "room a;room b;man m lets 1=2 bribe 4 tires 3;gate a b by m;person p at a to b coins 9 tact 9;";
        TenthMan x = Check.told(town);
        c.due("go", 4, x.go(0));
        Check.town(x, town);
        c.due("purse", 0, x.has(8));
        c.due("coins", 9, x.has(7));
        c.due("passed", 0, x.man(0, 2));
        c.due("place", 0, x.person(0, 0));
    }

    /** Nothing of towns told or refused earlier is left in a later one. */
    private static void manyTowns(Check c) {
        TenthMan x = Check.told("hour 1;hour 2;");
        Check.town(x, "hour 3;hour 4;hour 5;");
        c.due("an empty town", 0, Check.town(x, ""));
        c.due("hour", 0, x.has(4));
        String sum = "1" + "+1".repeat(700);
        for (int i = 0; i < 6; i++) {
            String text = "room a;man m lets not all bribe 0*" + sum + "+" + i + "-660 tires 1;person p at a to a coins 1 tact 1;";
            c.due("a long sum", 3, Check.town(x, text));
            c.due("its bribe", 700 + i - 660, x.lets(0, 0));
            c.due("a fault in another", -1, Check.town(x, "man m lets all bribe " + sum + ";"));
            c.due("the bribe stays", 700 + i - 660, x.lets(0, 0));
        }
    }

    private static void well(Check c, String text, int statements) {
        TenthMan x = new TenthMan();
        c.due("town of " + text, statements, Check.town(x, text));
        c.due("fault of " + text, 0, x.fault(0));
        c.due("place of " + text, -1, x.fault(1));
    }

    private static void bad(Check c, String text, int fault, int place) {
        TenthMan x = new TenthMan();
        c.due("town of " + text, -1, Check.town(x, text));
        c.due("fault of " + text, fault, x.fault(0));
        c.due("place of " + text, place, x.fault(1));
        c.due("rooms of " + text, 0, x.has(0));
    }
}
