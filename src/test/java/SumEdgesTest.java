/** The edges of sums, bribes, tests and of who has FAINTED (Terms I, II, promise 11). */
public final class SumEdgesTest {
    private static final String MOST = "1000*1000";
    private static final String LEAST = "(0-1000*1000)";

    public static void main(String[] args) {
        Check c = new Check("SumEdgesTest");
        greatestWholeNotAbove(c);
        by0(c);
        sums(c);
        differences(c);
        products(c);
        fromTheLeft(c);
        numbers(c);
        facts(c);
        signs(c);
        bribes(c);
        forNothing(c);
        fainted(c);
        counted200(c);
        noneSuch(c);
        c.end();
    }

    private static TenthMan front(String test, String bribe) {
        return Check.told("room a;man m lets " + test + " bribe " + bribe + " tires 20;person p at a to a coins 0 tact 12;hour 5;");
    }

    /** Two sums come to the same; neither is more. */
    private static void same(Check c, String one, String other) {
        c.due(one + " = " + other, 0, front(one + "=" + other, "9").lets(0, 0));
        c.due(one + " < " + other, 9, front(one + "<" + other, "9").lets(0, 0));
        c.due(one + " > " + other, 9, front(one + ">" + other, "9").lets(0, 0));
    }

    private static void less(Check c, String one, String other) {
        c.due(one + " < " + other, 0, front(one + "<" + other, "9").lets(0, 0));
        c.due(one + " = " + other, 9, front(one + "=" + other, "9").lets(0, 0));
        c.due(one + " > " + other, 9, front(one + ">" + other, "9").lets(0, 0));
    }

    /** "/ gives the greatest whole number not above". */
    private static void greatestWholeNotAbove(Check c) {
        same(c, "6/3", "2");
        same(c, "7/3", "2");
        same(c, "8/3", "2");
        same(c, "9/3", "3");
        same(c, "2/3", "0");
        same(c, "0/3", "0");
        same(c, "(0-1)/3", "0-1");
        same(c, "(0-3)/3", "0-1");
        same(c, "(0-4)/3", "0-2");
        same(c, "1/(0-3)", "0-1");
        same(c, "3/(0-3)", "0-1");
        same(c, "4/(0-3)", "0-2");
        same(c, "0/(0-3)", "0");
        same(c, "(0-2)/(0-3)", "0");
        same(c, "(0-3)/(0-3)", "1");
        same(c, "(0-7)/(0-3)", "2");
        same(c, MOST + "/(0-1)", LEAST);
        same(c, LEAST + "/(0-1)", MOST);
        same(c, "1/(" + MOST + ")", "0");
        same(c, "(0-1)/(" + MOST + ")", "0-1");
    }

    /** "by 0 it gives 0". */
    private static void by0(Check c) {
        same(c, "5/0", "0");
        same(c, "0/0", "0");
        same(c, "(0-5)/0", "0");
        same(c, "5/(3-3)", "0");
        same(c, "7+5/0", "7");
        same(c, MOST + "/passed", "0");
        c.due("a bribe", 0, front("not all", "50/0").lets(0, 0));
    }

    /** "each sum .. above 10 to the 6 is that, below -10 to the 6 likewise". */
    private static void sums(Check c) {
        less(c, "999*1001", MOST);
        same(c, "999*1001+1", MOST);
        same(c, "999*1001+2", MOST);
        same(c, MOST + "+0", MOST);
        same(c, MOST + "+1", MOST);
        same(c, MOST + "+" + MOST, MOST);
        less(c, LEAST, "1-" + MOST);
        same(c, "(1-" + MOST + ")+(0-1)", LEAST);
        same(c, "(1-" + MOST + ")+(0-2)", LEAST);
        same(c, LEAST + "+0", LEAST);
        same(c, LEAST + "+(0-1)", LEAST);
        same(c, LEAST + "+" + LEAST, LEAST);
        same(c, LEAST + "+" + MOST, "0");
    }

    /** "difference". */
    private static void differences(Check c) {
        less(c, MOST + "-1", MOST);
        same(c, "999*1001-(0-1)", MOST);
        same(c, "999*1001-(0-2)", MOST);
        same(c, MOST + "-0", MOST);
        same(c, MOST + "-(0-1)", MOST);
        same(c, MOST + "-" + LEAST, MOST);
        same(c, "(1-" + MOST + ")-1", LEAST);
        same(c, "(1-" + MOST + ")-2", LEAST);
        same(c, LEAST + "-1", LEAST);
        same(c, LEAST + "-" + MOST, LEAST);
        same(c, MOST + "-" + MOST, "0");
        same(c, LEAST + "-" + LEAST, "0");
    }

    /** "product". */
    private static void products(Check c) {
        same(c, "8*125*10*100", MOST);
        less(c, "999*1000", MOST);
        less(c, "101*9900", MOST);
        same(c, "101*9901", MOST);
        same(c, "1001*1000", MOST);
        same(c, "9999*9999", MOST);
        same(c, "9999*9999*9999*9999", MOST);
        same(c, MOST + "*(" + MOST + ")", MOST);
        same(c, LEAST + "*(" + MOST + ")", LEAST);
        same(c, "(" + MOST + ")*" + LEAST, LEAST);
        same(c, LEAST + "*" + LEAST, MOST);
        same(c, "(0-1001)*1000", LEAST);
        same(c, "1000*(0-1000)", LEAST);
        less(c, LEAST, "(0-101)*9900");
        same(c, "(0-101)*9901", LEAST);
        same(c, "0*9999", "0");
        same(c, MOST + "*0", "0");
    }

    /** "All from the left on": what is above 10 to the 6 is that at once. */
    private static void fromTheLeft(Check c) {
        same(c, MOST + "+5-5", MOST + "-5");
        same(c, MOST + "-5+5", MOST);
        same(c, MOST + "*2/2", "1000*500");
        same(c, MOST + "/2*2", MOST);
        same(c, "0-" + MOST + "-5+5", "5-" + MOST);
        same(c, "7-2-3", "2");
        same(c, "60/6/2", "5");
        same(c, "60/6*2", "20");
        same(c, "1-2*3", "0-5");
        same(c, "min(" + MOST + "+5," + MOST + ")", MOST);
        same(c, "max(5,0-5)", "5");
        same(c, "min(5,0-5)", "0-5");
        same(c, "min(4,4)", "4");
        same(c, "max(4,4)", "4");
    }

    /** "N (1 to 4 digits)". */
    private static void numbers(Check c) {
        same(c, "0", "0000");
        same(c, "7", "0007");
        same(c, "10", "0010");
        same(c, "9999", "100*100-1");
        less(c, "9998", "9999");
    }

    /** "(Of a PERSON in front of a MAN: his tact, the hour, how many the MAN has let through today, the PERSON's number, the day.)" */
    private static void facts(Check c) {
        String men = "room a;room b;man k lets not all bribe tact tires 20;man l lets not all bribe hour tires 20;"
                + "man m lets not all bribe passed tires 20;man n lets not all bribe who tires 20;man o lets not all bribe day/9 tires 20;"
                + "gate a b by m;";
        TenthMan x = Check.told(men + "person q at a to b coins 9 tact 0;person p at a to b coins 0 tact 99;"
                + "person r at a to a coins 0 tact 1;person s at a to a coins 0 tact 1;person t at a to a coins 0 tact 1;"
                + "person u at a to a coins 0 tact 50;");
        int[] tacts = {0, 99, 1, 1, 1, 50};
        for (int person = 0; person < 6; person++) {
            c.due("tact of " + person, tacts[person], x.lets(0, person));
            c.due("hour in front of " + person, 0, x.lets(1, person));
            c.due("passed in front of " + person, 0, x.lets(2, person));
            c.due("who is " + person, person, x.lets(3, person));
            c.due("day in front of " + person, 0, x.lets(4, person));
        }
        x.hour(23);
        c.due("hour 23", 23, x.lets(1, 5));
        x.go(0);
        c.due("one has passed", 1, x.lets(2, 5));
        c.due("none in front of another man", 99, x.lets(0, 1));
        x.go(0);
        c.due("two have passed", 2, x.lets(2, 0));
        x.night();
        c.due("none today", 0, x.lets(2, 0));
        c.due("hour 0", 0, x.lets(1, 0));
        for (int day = 2; day <= 18; day++) {
            x.night();
        }
        c.due("day 18 / 9", 2, x.lets(4, 0));
    }

    /** "SIGN < or > or =", and tests of them: "BOTH { or BOTH }", "FACT { and FACT }", "not FACT". */
    private static void signs(Check c) {
        less(c, "0", "1");
        less(c, "0-1", "0");
        same(c, "0", "0");
        String yes = "1=1";
        String no = "1=2";
        String[] holds = {"all", "not not all", yes + " or " + no, no + " or " + yes, yes + " and " + yes, "not " + no + " and " + yes,
            yes + " or " + yes + " and " + no, no + " and " + no + " or " + yes, "not [" + no + " or " + no + "]",
            no + " or " + no + " or " + yes, "[" + yes + "]", "not " + no + " or " + yes};
        String[] fails = {"not all", "not not not all", no + " or " + no, yes + " and " + no, no + " and " + yes, "not " + yes + " and " + yes,
            "[" + yes + " or " + yes + "] and " + no, no + " and [" + no + " or " + yes + "]", "not [" + no + " or " + yes + "]",
            yes + " and " + yes + " and " + no, "[" + no + "]", "not " + no + " and " + no};
        for (String test : holds) {
            c.due("lets " + test, 0, front(test, "9").lets(0, 0));
        }
        for (String test : fails) {
            c.due("lets " + test, 9, front(test, "9").lets(0, 0));
        }
    }

    /** II: "for the SUM of his bribe, 0 .. 99 (below is 0, above 99)". */
    private static void bribes(Check c) {
        String[][] rows = {{"0-1", "0"}, {LEAST, "0"}, {"0", "0"}, {"1", "1"}, {"98", "98"}, {"99", "99"}, {"100", "99"}, {"9999", "99"}, {MOST, "99"}};
        for (String[] row : rows) {
            c.due("bribe " + row[0], Integer.parseInt(row[1]), front("not all", row[0]).lets(0, 0));
            c.due("let for nothing ahead of bribe " + row[0], 0, front("all", row[0]).lets(0, 0));
        }
    }

    /** II: "for nothing, if he has FAINTED, is his FRIEND, or his TEST holds". */
    private static void forNothing(Check c) {
        String town = "room a;room b;man k lets tact>50 bribe 7 tires 1;man l lets not all bribe 8 tires 20;gate a b by k;"
                + "person p at a to b coins 50 tact 51;person q at a to b coins 50 tact 50;";
        TenthMan x = Check.told(town);
        c.due("his test holds", 0, x.lets(0, 0));
        c.due("it doesn't", 7, x.lets(0, 1));
        x.friend(1, 0, true);
        c.due("a friend", 0, x.lets(0, 1));
        c.due("of that man alone", 8, x.lets(1, 1));
        x.friend(1, 0, false);
        x.friend(0, 1, true);
        c.due("another's friend is none", 8, x.lets(1, 1));
        x.go(0);
        c.due("he has fainted", 0, x.lets(0, 1));
        c.due("another man hasn't", 8, x.lets(1, 1));
    }

    /** II: "He has FAINTED, if he has let through today as many as he tires, or more". */
    private static void fainted(Check c) {
        for (int tires : new int[] {1, 2, 20}) {
            TenthMan x = Check.told("room a;room b;man m lets not all bribe 2 tires " + tires
                    + ";gate a b by m;person p at a to b coins 99 tact 0;person q at a to a coins 0 tact 0;");
            for (int gone = 0; gone <= tires + 2; gone++) {
                boolean faint = gone >= tires;
                String when = gone + " of " + tires;
                c.due(when + ": let through", gone, x.man(0, 2));
                c.due(when + ": fainted", faint ? 1 : 0, x.man(0, 3));
                c.due(when + ": men who have", faint ? 1 : 0, x.has(6));
                c.due(when + ": lets q", faint ? 0 : 2, x.lets(0, 1));
                c.due(when + ": p goes", faint ? 0 : 2, x.go(0));
            }
            c.due("paid till then", 2 * tires, x.man(0, 4));
            x.night();
            c.due("today", 0, x.man(0, 3));
            c.due("lets q", 2, x.lets(0, 1));
        }
    }

    /** II: "such as go through behind that count, too; 200 at most are counted". */
    private static void counted200(Check c) {
        TenthMan x = Check.told("room a;room b;man m lets all bribe 2 tires 1;gate a b by m;person p at a to b coins 99 tact 0;");
        for (int gone = 1; gone <= 199; gone++) {
            x.go(0);
        }
        c.due("199", 199, x.man(0, 2));
        x.go(0);
        c.due("200", 200, x.man(0, 2));
        c.due("the 201st goes all the same", 0, x.go(0));
        c.due("he is there", 1, x.person(0, 0));
        c.due("200 are counted", 200, x.man(0, 2));
        x.undo();
        c.due("undone", 200, x.man(0, 2));
        x.undo();
        c.due("undone once more", 199, x.man(0, 2));
        x.night();
        c.due("none today", 0, x.man(0, 2));
    }

    /** Promise 11: "NONE when there are none such". */
    private static void noneSuch(Check c) {
        TenthMan x = front("not all", "9");
        c.due("lets(0, 0)", 9, x.lets(0, 0));
        for (int none : new int[] {-1, 1, 6, 12, 32, Integer.MIN_VALUE, Integer.MAX_VALUE}) {
            c.due("lets(" + none + ", 0)", -1, x.lets(none, 0));
            c.due("lets(0, " + none + ")", -1, x.lets(0, none));
            c.due("lets(" + none + ", " + none + ")", -1, x.lets(none, none));
        }
        TenthMan full = Full.town();
        c.due("the last of each", 11, full.lets(11, 5));
        c.due("a man more", -1, full.lets(12, 5));
        c.due("a person more", -1, full.lets(11, 6));
        c.due("no people", -1, Check.told(Full.men(12)).lets(0, 0));
        c.due("no men", -1, Check.told(Full.rooms(10) + Full.people(6)).lets(0, 0));
    }
}
