/** Promises 27 to 29: see, seen, fire. */
public final class SeenFireTest {
    private static final String MEN = "room a;room b;man k lets hour<6 bribe 5 tires 1;man l lets who=1 bribe 5 tires 2;"
            + "man m lets passed=0 bribe 1-tact tires 2;man n lets tact>50 bribe day tires 2;man o lets not all bribe 1 tires 20;"
            + "gate a b by l;person p at a to b coins 9 tact 0;person q at b to a coins 9 tact 60;";

    public static void main(String[] args) {
        Check c = new Check("SeenFireTest");
        rows(c);
        men(c);
        wrongRows(c);
        fires(c);
        crowds(c);
        c.end();
    }

    private static int see(TenthMan x, int... bytes) {
        Check.put(x, Check.bytes(bytes));
        return x.see();
    }

    private static void rows(Check c) {
        TenthMan x = Check.told(MEN);
        c.due("nothing seen", -1, x.seen());
        c.due("one row", 1, see(x, 5, 0, 1));
        c.due("k at 5, m, n for a bribe of day 0", 13, x.seen());
        c.due("the tape went", false, x.end(1));
        c.due("two rows take the place", 2, see(x, 6, 0, 0, 6, 1, 1));
        c.due("l alone", 2, x.seen());
        c.due("k, o", 1, see(x, 6, 0, 0));
        c.due("all but m and n", 19, x.seen());
        c.due("nobody", 2, see(x, 6, 0, 0, 6, 0, 1));
        c.due("no man", 0, x.seen());
        byte[] many = new byte[60];
        for (int i = 0; i < 60; i += 3) {
            many[i] = (byte) (i % 23);
            many[i + 1] = 1;
            many[i + 2] = 1;
        }
        Check.put(x, many);
        c.due("20 rows", 20, x.see());
        c.due("l, m, n", 14, x.seen());
    }

    /** Friends, the fainted and those let through count for nothing; the day is today's. */
    private static void men(Check c) {
        TenthMan x = Check.told(MEN);
        c.due("see", 1, see(x, 6, 0, 0));
        c.due("k, l, o", 19, x.seen());
        x.friend(0, 0, true);
        x.friend(0, 4, true);
        c.due("friends", 19, x.seen());
        x.go(0);
        x.go(0);
        x.go(1);
        c.due("fainted", 1, x.man(1, 3));
        c.due("fainted ones", 19, x.seen());
        x.hour(2);
        c.due("the hour is the row's", 19, x.seen());
        x.night();
        c.due("day 1: n wants a coin", 27, x.seen());
        x.undo();
        c.due("day 0 again", 19, x.seen());
        x.swap(0, 0);
        c.due("a fault leaves it", -1, Check.town(x, "!"));
        c.due("still seen", 19, x.seen());
        x.image();
        byte[] image = new byte[32];
        for (int i = 0; i < 32; i++) {
            image[i] = (byte) x.octet(i);
        }
        Check.put(x, image);
        c.due("an image", true, x.on());
        c.due("still seen", 19, x.seen());
    }

    private static void wrongRows(Check c) {
        TenthMan x = Check.told(MEN);
        c.due("see", 1, see(x, 6, 0, 0));
        int[][] wrong = {{}, {6}, {6, 0}, {6, 0, 0, 6}, {24, 0, 0}, {6, 2, 0}, {6, 0, 2}, {6, 255, 0}, {255, 0, 0}, {6, 0, 255},
            {6, 0, 0, 6, 0, 3}, new int[63]};
        for (int[] row : wrong) {
            c.due("see of " + row.length, -1, see(x, row));
            c.due("the tape went", false, x.end(1));
            c.due("what was seen stays", 19, x.seen());
        }
        c.due("hour 23", 1, see(x, 23, 1, 1));
        c.due("nobody there", -1, see(new TenthMan(), 6, 0, 0));
    }

    /** Rooms a and on; gates "ab"; people at the letters of a text. */
    private static TenthMan town(char last, String at, String... gates) {
        StringBuilder s = new StringBuilder();
        for (char r = 'a'; r <= last; r++) {
            s.append("room r").append(r).append(";");
        }
        for (int i = 0; i < gates.length; i++) {
            s.append("man m").append((char) ('a' + i)).append(" lets not all bribe 99 tires 1;");
            s.append("gate r").append(gates[i].charAt(0)).append(" r").append(gates[i].charAt(1)).append(" by m").append((char) ('a' + i)).append(";");
        }
        for (int i = 0; i < at.length(); i++) {
            s.append("person p").append((char) ('a' + i)).append(" at r").append(at.charAt(i)).append(" to ra coins 0 tact 0;");
        }
        return Check.told(s.toString());
    }

    private static void fires(Check c) {
        TenthMan x = town('d', "a", "ab", "bc");
        c.due("there", 0, x.fire(0));
        c.due("one step", 1, x.fire(1));
        c.due("two steps", 2, x.fire(2));
        c.due("can't be there", 0, x.fire(3));
        c.due("no room", -1, x.fire(4));
        c.due("no room", -1, x.fire(-1));
        c.due("nobody moved", 0, x.person(0, 0));
        c.due("nobody let through", 0, x.man(0, 2));
        c.due("nobody there", 0, town('b', "", "ab").fire(0));
        c.due("no gates", 0, town('b', "ab").fire(0));
    }

    private static void crowds(Check c) {
        c.due("six through one gate", 6, town('b', "aaaaaa", "ab").fire(1));
        c.due("six through two gates", 3, town('b', "aaaaaa", "ab", "ba").fire(1));
        c.due("six of whom one is there", 5, town('b', "aabaaa", "ab").fire(1));
        c.due("one behind the other", 4, town('c', "aaa", "ab", "bc").fire(2));
        // Both ways of two steps are used: p by b, q by c, r behind p.
        c.due("by two ways", 3, town('d', "aaa", "ab", "ac", "bd", "cd").fire(3));
        // A gate that brings nobody nearer is not used: round by c, d is no nearer.
        c.due("no way round", 2, town('d', "aa", "ab", "ac", "cd", "db").fire(1));
        // From b and from c to a through b: p at b goes first, r at c then q at b wait for gate ab.
        c.due("one gate at the end", 3, town('c', "bcb", "ab", "bc").fire(0));
        // Person 0 (at c) moves ahead of person 1 (at b) in the same minute, but gate ab is free for 1 alone.
        c.due("by numbers", 2, town('c', "cb", "ab", "bc").fire(0));
        // A gate is used once a minute, whichever way: p from b to a by gate 0; nobody else needs it.
        c.due("rooms of two gates", 2, town('d', "dd", "ab", "bd", "bd", "ab").fire(0));
        // The first gate by numbers is taken, though the next one would be wiser:
        // b is joined to a by one gate, c by one too; both p and q at d have gates 0 (to b) and 1 (to c).
        c.due("spread out", 2, town('d', "dd", "db", "dc", "ba", "ca").fire(0));
        c.due("both by the first room", 3, town('d', "dd", "db", "db", "ba", "dc", "ca").fire(0));
    }
}
