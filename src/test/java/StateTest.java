/** Promises 6 to 10: has, letter, gate, man, person. */
public final class StateTest {
    private static final String TOWN = "room hall;room attic;room z;man guard lets tact>5 bribe 3 tires 1;"
            + "man idle lets all bribe 0 tires 20;man lad lets who=1 bribe 4 tires 2;gate hall attic by lad;"
            + "gate attic z by guard;person abcdef at hall to z coins 30 tact 2;person bo at z to z coins 999 tact 99;hour 13;";

    public static void main(String[] args) {
        Check c = new Check("StateTest");
        TenthMan x = Check.told(TOWN);
        counts(c, x);
        letters(c, x);
        gates(c, x);
        afterActs(c, x);
        c.end();
    }

    private static void row(Check c, String what, TenthMan x, int... want) {
        for (int i = 0; i < want.length; i++) {
            c.due(what + " has(" + i + ")", want[i], x.has(i));
        }
    }

    private static void counts(Check c, TenthMan x) {
        row(c, "told", x, 3, 3, 2, 2, 13, 0, 0, 1029, 0, 0, 0, -1);
        c.due("has(-1)", -1, x.has(-1));
        c.due("has(most)", -1, x.has(Integer.MAX_VALUE));
        c.due("has(least)", -1, x.has(Integer.MIN_VALUE));
    }

    private static void letters(Check c, TenthMan x) {
        int[] hall = {8, 1, 12, 12, 0, 0};
        int[] guard = {7, 21, 1, 18, 4, 0};
        int[] abcdef = {1, 2, 3, 4, 5, 6};
        for (int k = 0; k < 6; k++) {
            c.due("hall " + k, hall[k], x.letter(0, 0, k));
            c.due("guard " + k, guard[k], x.letter(1, 0, k));
            c.due("abcdef " + k, abcdef[k], x.letter(2, 0, k));
        }
        c.due("z", 26, x.letter(0, 2, 0));
        c.due("behind z", 0, x.letter(0, 2, 1));
        int[][] none = {{0, 3, 0}, {1, 3, 0}, {2, 2, 0}, {3, 0, 0}, {-1, 0, 0}, {0, -1, 0}, {0, 0, -1}, {0, 0, 6},
            {Integer.MIN_VALUE, 0, 0}, {0, Integer.MAX_VALUE, 0}, {0, 0, Integer.MIN_VALUE}};
        for (int[] n : none) {
            c.due("letter(" + n[0] + "," + n[1] + "," + n[2] + ")", -1, x.letter(n[0], n[1], n[2]));
        }
    }

    private static void gates(Check c, TenthMan x) {
        int[][] want = {{0, 1, 2, -1}, {1, 2, 0, -1}, {-1, -1, -1, -1}};
        for (int g = 0; g < 3; g++) {
            for (int what = 0; what < 4; what++) {
                c.due("gate(" + g + "," + what + ")", want[g][what], x.gate(g, what));
            }
        }
        c.due("gate(-1,0)", -1, x.gate(-1, 0));
        c.due("gate(0,-1)", -1, x.gate(0, -1));
        people(c, x, "told", new int[][] {{0, 2, 30, 2, 0, -1}, {2, 2, 999, 99, 0, -1}, {-1, -1, -1, -1, -1, -1}});
        men(c, x, "told", new int[][] {{1, 1, 0, 0, 0, 0, -1}, {-1, 20, 0, 0, 0, 0, -1}, {0, 2, 0, 0, 0, 0, -1},
            {-1, -1, -1, -1, -1, -1, -1}});
        c.due("man(-1,1)", -1, x.man(-1, 1));
        c.due("man(0,-1)", -1, x.man(0, -1));
        c.due("person(-1,0)", -1, x.person(-1, 0));
        c.due("person(0,-1)", -1, x.person(0, -1));
    }

    private static void people(Check c, TenthMan x, String when, int[][] want) {
        for (int p = 0; p < want.length; p++) {
            for (int what = 0; what < want[p].length; what++) {
                c.due(when + " person(" + p + "," + what + ")", want[p][what], x.person(p, what));
            }
        }
    }

    private static void men(Check c, TenthMan x, String when, int[][] want) {
        for (int m = 0; m < want.length; m++) {
            for (int what = 0; what < want[m].length; what++) {
                c.due(when + " man(" + m + "," + what + ")", want[m][what], x.man(m, what));
            }
        }
    }

    private static void afterActs(Check c, TenthMan x) {
        c.due("go", 7, x.go(0));
        x.friend(0, 1, true);
        x.friend(1, 1, true);
        x.friend(1, 2, true);
        row(c, "gone", x, 3, 3, 2, 2, 13, 0, 1, 1022, 7, 3, 4, -1);
        people(c, x, "gone", new int[][] {{2, 0, 23, 2, 2, -1}, {2, 2, 999, 99, 6, -1}});
        men(c, x, "gone", new int[][] {{1, 1, 1, 1, 3, 0, -1}, {-1, 20, 0, 0, 0, 2, -1}, {0, 2, 1, 0, 4, 1, -1}});
        x.swap(0, 1);
        c.due("gate 0", 0, x.gate(0, 2));
        c.due("guard's gate", 0, x.man(0, 0));
        c.due("lad's gate", 1, x.man(2, 0));
    }
}
