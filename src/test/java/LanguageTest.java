/** Promise 11 and the small language: for how much a man lets a person through. */
public final class LanguageTest {
    public static void main(String[] args) {
        Check c = new Check("LanguageTest");
        bribes(c);
        bounds(c);
        tests(c);
        facts(c);
        faintingAndFriends(c);
        none(c);
        c.end();
    }

    /** Of person 0, tact 12, in front of a fresh man, hour 5. */
    private static int price(String test, String bribe) {
        TenthMan x = Check.told("room a;hour 5;person p at a to a coins 1 tact 12;man m lets " + test + " bribe " + bribe
                + " tires 2;");
        return x.lets(0, 0);
    }

    private static void bribe(Check c, String sum, int want) {
        c.due("bribe " + sum, want, price("1=2", sum));
    }

    private static void bribes(Check c) {
        bribe(c, "0", 0);
        bribe(c, "99", 99);
        bribe(c, "100", 99);
        bribe(c, "9999", 99);
        bribe(c, "0-5", 0);
        bribe(c, "10-2-3", 5);
        bribe(c, "2+3*4", 14);
        bribe(c, "(2+3)*4", 20);
        bribe(c, "2*3+4", 10);
        bribe(c, "60/4/5", 3);
        bribe(c, "60/(4/2)", 30);
        bribe(c, "7/2*2", 6);
        bribe(c, "7*2/2", 7);
        bribe(c, "50+(0-7)/2", 46);
        bribe(c, "50+7/(0-2)", 46);
        bribe(c, "50+(0-7)/(0-2)", 53);
        bribe(c, "50+(0-8)/2", 46);
        bribe(c, "7/0", 0);
        bribe(c, "50+7/(3-3)", 50);
        bribe(c, "min(7,3)", 3);
        bribe(c, "max(7,3)", 7);
        bribe(c, "50+min(0-4,3)", 46);
        bribe(c, "max(min(9,5),min(8,4))", 5);
        bribe(c, "tact", 12);
        bribe(c, "hour", 5);
        bribe(c, "passed+who+day", 0);
        bribe(c, "0012+0005", 17);
    }

    private static void bounds(Check c) {
        bribe(c, "9999*9999/9999", 99);
        tooLong(c, "9999*9999/20000", "20000");
        bribe(c, "9999*9999/5000/4", 50);
        bribe(c, "(9999*9999+9999)/5000/4", 50);
        bribe(c, "(9999*9999-1000)/9999", 99);
        bribe(c, "(9999*9999-9999-(9999*9999-9999-50))", 50);
        bribe(c, "99+(0-9999*9999)/5000/4", 49);
        bribe(c, "99+((0-9999*9999)-9999)/5000/4", 49);
        bribe(c, "99+((0-9999)*9999)/5000/4", 49);
        bribe(c, "(9999*9999*9999)/5000/4", 50);
        bribe(c, "1000*1000/5000/4", 50);
        bribe(c, "(1000*1000-1)/5000/4", 49);
    }

    /** A number of five digits is none: the text has a fault there. */
    private static void tooLong(Check c, String sum, String digits) {
        TenthMan x = new TenthMan();
        String text = "man m lets all bribe " + sum + " tires 1;";
        c.due("town with " + sum, -1, Check.town(x, text));
        c.due("place in " + sum, text.indexOf(digits) + 4, x.fault(1));
    }

    private static void test(Check c, String test, boolean holds) {
        c.due("lets " + test, holds ? 0 : 9, price(test, "9"));
    }

    private static void tests(Check c) {
        test(c, "all", true);
        test(c, "not all", false);
        test(c, "not not all", true);
        test(c, "1<2", true);
        test(c, "2<1", false);
        test(c, "1<1", false);
        test(c, "1>1", false);
        test(c, "2>1", true);
        test(c, "1=1", true);
        test(c, "1=2", false);
        test(c, "1=2 or 1=1", true);
        test(c, "1=1 and 1=2", false);
        test(c, "1=1 or 1=1 and 1=2", true);
        test(c, "1=2 and 1=1 or 1=1", true);
        test(c, "[1=1 or 1=1] and 1=2", false);
        test(c, "not 1=2 and 1=2", false);
        test(c, "not [1=2 and 1=2]", true);
        test(c, "not 1=1 or 1=1", true);
        test(c, "not [1=1 or 1=1]", false);
        test(c, "not not 1=2", false);
        test(c, "1+1=2", true);
        test(c, "3=1+2*1", true);
        test(c, "tact>11 and tact<13", true);
        test(c, "hour=5", true);
        test(c, "1=2 or 1=2 or 1=2 or all", true);
        test(c, "all and all and all and 1=2", false);
        test(c, "0-1<0", true);
    }

    private static void facts(Check c) {
        TenthMan x = Check.told("room a;room b;man m lets passed=1 bribe 10*day+who+passed tires 9;gate a b by m;"
                + "person p at a to b coins 50 tact 1;person q at a to b coins 50 tact 2;");
        c.due("q first", 1, x.lets(0, 1));
        c.due("p first", 0, x.lets(0, 0));
        c.due("q goes", 1, x.go(1));
        c.due("one has passed", 0, x.lets(0, 1));
        c.due("q goes back", 0, x.go(1));
        c.due("two have passed", 3, x.lets(0, 1));
        x.night();
        c.due("day 1", 11, x.lets(0, 1));
        x.night();
        c.due("day 2", 20, x.lets(0, 0));
        TenthMan y = Check.told("room a;man m lets hour>11 bribe hour+tact tires 9;person p at a to a coins 50 tact 30;hour 7;");
        c.due("hour 7", 37, y.lets(0, 0));
        y.hour(11);
        c.due("hour 11", 41, y.lets(0, 0));
        y.hour(12);
        c.due("hour 12", 0, y.lets(0, 0));
    }

    private static void faintingAndFriends(Check c) {
        TenthMan x = Check.told("room a;room b;man m lets not all bribe 5 tires 2;gate a b by m;"
                + "person p at a to b coins 50 tact 1;person q at a to b coins 50 tact 2;");
        c.due("fresh", 5, x.lets(0, 0));
        x.go(0);
        c.due("one", 5, x.lets(0, 0));
        x.go(0);
        c.due("fainted", 0, x.lets(0, 0));
        c.due("fainted for all", 0, x.lets(0, 1));
        x.go(0);
        c.due("behind that count", 3, x.man(0, 2));
        x.night();
        c.due("rested", 5, x.lets(0, 1));
        x.friend(0, 0, true);
        c.due("friend", 0, x.lets(0, 0));
        c.due("no friend", 5, x.lets(0, 1));
        x.friend(0, 0, false);
        c.due("friend no more", 5, x.lets(0, 0));
    }

    private static void none(Check c) {
        TenthMan x = Check.told("room a;man m lets not all bribe 5 tires 2;person p at a to a coins 50 tact 1;");
        c.due("a man without a gate", 5, x.lets(0, 0));
        c.due("lets(1,0)", -1, x.lets(1, 0));
        c.due("lets(0,1)", -1, x.lets(0, 1));
        c.due("lets(-1,0)", -1, x.lets(-1, 0));
        c.due("lets(0,-1)", -1, x.lets(0, -1));
        c.due("lets(most,least)", -1, x.lets(Integer.MAX_VALUE, Integer.MIN_VALUE));
    }
}
