/** The edges of what is SEEN and of A FIRE (III, promises 27 to 29), a test for each sentence that names one. */
public final class SightEdgesTest {
    private static final String TOWN = "room a;room b;man k lets hour<12 bribe 5 tires 1;man l lets who=1 bribe 5 tires 2;"
            + "man m lets passed=0 bribe 1 tires 2;man n lets tact>50 bribe 5 tires 2;man o lets day=1 bribe 1 tires 20;"
            + "gate a b by k;person p at a to b coins 9 tact 50;person q at b to a coins 9 tact 51;";
    private static final int[] FAR = {Integer.MIN_VALUE, -33, -2, -1, 32, 33, 255, Integer.MAX_VALUE};

    public static void main(String[] args) {
        Check c = new Check("SightEdgesTest");
        oneToTwentyRows(c);
        rowsOfThreeBytes(c);
        noneSuch(c);
        inItsPlace(c);
        nothingSeen(c);
        whichMen(c);
        nobodyAFriend(c);
        today(c);
        allMen(c);
        there(c);
        noRoom(c);
        whoCanBe(c);
        oneThroughEachGate(c);
        byNumbers(c);
        nextSuchOne(c);
        crowds(c);
        wallsCountForNothing(c);
        c.end();
    }

    private static int see(TenthMan x, int... bytes) {
        Check.put(x, Check.bytes(bytes));
        return x.see();
    }

    /** So many rows of hour 6, person 0, 1. */
    private static int[] rows(int count) {
        int[] bytes = new int[3 * count];
        for (int i = 0; i < count; i++) {
            bytes[3 * i] = 6;
            bytes[3 * i + 2] = 1;
        }
        return bytes;
    }

    private static void refused(Check c, String name, int... bytes) {
        Twins.onlyTapeGoes(c, name, () -> {
            TenthMan x = Twins.busyWithoutTape();
            Check.put(x, Check.bytes(bytes));
            return x;
        }, TenthMan::see, -1);
    }

    /** Promise 27: "1 to 20 rows of three bytes: how many rows". */
    private static void oneToTwentyRows(Check c) {
        TenthMan x = Check.told(TOWN);
        for (int count = 1; count <= 20; count++) {
            c.due(count + " rows", count, see(x, rows(count)));
            c.due("k, m", 5, x.seen());
        }
        refused(c, "no rows");
        refused(c, "21 rows", rows(21));
        refused(c, "22 rows", rows(22));
        refused(c, "533 rows", rows(533));
        int[] last = rows(20);
        last[57] = 12;
        c.due("20 rows, the last one of hour 12", 20, see(x, last));
        c.due("m alone", 4, x.seen());
    }

    private static void rowsOfThreeBytes(Check c) {
        refused(c, "1 byte", 6);
        refused(c, "2 bytes", 6, 0);
        refused(c, "4 bytes", 6, 0, 0, 6);
        refused(c, "5 bytes", 6, 0, 0, 6, 0);
        refused(c, "59 bytes", java.util.Arrays.copyOf(rows(20), 59));
        refused(c, "61 bytes", java.util.Arrays.copyOf(rows(20), 61));
        TenthMan x = Check.told(TOWN);
        Check.put(x, Check.bytes(6, 0, 1, 9, 9, 9));
        x.end(3);
        c.due("what was cut off counts for nothing", 1, x.see());
    }

    /** Promise 27: "NONE, doing nothing else, when it is none such" (hour 0 .. 23, a PERSON, 1 or 0). */
    private static void noneSuch(Check c) {
        TenthMan x = Check.told(TOWN);
        c.due("hour 0", 1, see(x, 0, 0, 0));
        c.due("hour 23", 1, see(x, 23, 0, 0));
        c.due("the last person", 1, see(x, 6, 1, 0));
        c.due("1", 1, see(x, 6, 0, 1));
        refused(c, "hour 24", 24, 0, 0);
        refused(c, "hour 128", 128, 0, 0);
        refused(c, "hour 255", 255, 0, 0);
        refused(c, "person 2 of two", 6, 2, 0);
        refused(c, "person 255", 6, 255, 0);
        refused(c, "2 for nothing", 6, 0, 2);
        refused(c, "255 for nothing", 6, 0, 255);
        refused(c, "a wrong row behind a good one", 6, 0, 0, 6, 0, 2);
        refused(c, "a wrong row ahead of a good one", 24, 0, 0, 6, 0, 0);
        int[] last = rows(20);
        last[58] = 2;
        refused(c, "the 20th row", last);
        TenthMan full = Full.town();
        c.due("person 5 of six", 1, see(full, 6, 5, 0));
        c.due("person 6 of six", -1, see(full, 6, 6, 0));
        c.due("nobody there", -1, see(Check.told("room a;man k lets all bribe 1 tires 1;"), 6, 0, 0));
    }

    private static void inItsPlace(Check c) {
        TenthMan x = Check.told(TOWN);
        see(x, 6, 0, 1, 13, 0, 0);
        c.due("k alone", 1, x.seen());
        see(x, 13, 0, 0);
        c.due("one row in the place of two", 27, x.seen());
        c.due("the tape went", 0, Twins.tapeLength(x));
        c.due("a wrong one", -1, see(x, 24, 0, 0));
        c.due("it stays", 27, x.seen());
    }

    /** Promise 28: "NONE when nothing is SEEN". */
    private static void nothingSeen(Check c) {
        c.due("a new one", -1, new TenthMan().seen());
        TenthMan x = Check.told(TOWN);
        c.due("a town", -1, x.seen());
        see(x, 24, 0, 0);
        c.due("a wrong row alone", -1, x.seen());
        see(x, 6, 0, 1, 6, 0, 0);
        c.due("no man it can have been is not nothing", 0, x.seen());
        Check.town(x, "!");
        c.due("a fault leaves it", 0, x.seen());
        Check.town(x, TOWN);
        c.due("a town takes it", -1, x.seen());
        TenthMan y = Check.told("room a;person p at a to a coins 1 tact 1;");
        see(y, 6, 0, 0);
        c.due("no men", 0, y.seen());
    }

    /** III: "rows of hour, PERSON, 1 if he was let through for nothing, else 0 .. which MEN it can have been". */
    private static void whichMen(Check c) {
        TenthMan x = Check.told(TOWN);
        int[][] want = {{11, 0, 1, 5}, {11, 0, 0, 26}, {12, 0, 1, 4}, {12, 0, 0, 27}, {11, 1, 1, 15}, {11, 1, 0, 16}, {12, 1, 1, 14}, {12, 1, 0, 17}};
        for (int[] row : want) {
            see(x, row[0], row[1], row[2]);
            c.due("hour " + row[0] + ", person " + row[1] + ", " + row[2], row[3], x.seen());
        }
        see(x, 12, 0, 0, 12, 1, 1);
        c.due("l, n", 10, x.seen());
        TenthMan y = Check.told("room a;man k lets not all bribe 0 tires 1;man l lets not all bribe 0-5 tires 1;"
                + "man m lets not all bribe 1 tires 1;person p at a to a coins 1 tact 1;");
        see(y, 6, 0, 1);
        c.due("a bribe of nothing", 3, y.seen());
    }

    /** III: "(nobody a FRIEND, none FAINTED, none let through ahead ..)". */
    private static void nobodyAFriend(Check c) {
        TenthMan x = Check.told(TOWN);
        see(x, 12, 0, 0);
        c.due("k, l, n, o", 27, x.seen());
        x.friend(0, 0, true);
        x.friend(0, 1, true);
        c.due("friends", 27, x.seen());
        x.go(0);
        c.due("k has fainted", 1, x.man(0, 3));
        c.due("fainted", 27, x.seen());
        TenthMan y = Check.told(TOWN.replace("gate a b by k", "gate a b by m"));
        see(y, 12, 0, 1);
        y.go(0);
        c.due("m has let one", 1, y.man(2, 2));
        c.due("none ahead", 4, y.seen());
        y.hour(15);
        c.due("the row's hour counts", 4, y.seen());
    }

    /** III: "today". */
    private static void today(Check c) {
        TenthMan x = Check.told(TOWN);
        see(x, 12, 0, 1);
        c.due("day 0", 4, x.seen());
        x.night();
        c.due("day 1", 20, x.seen());
        x.night();
        c.due("day 2", 4, x.seen());
        x.undo();
        c.due("day 1 again", 20, x.seen());
    }

    /** III: "as bits (of all MEN)". */
    private static void allMen(Check c) {
        TenthMan full = Full.town();
        see(full, 6, 5, 0);
        c.due("all but man 0, who wants nothing", 4094, full.seen());
        see(full, 6, 5, 1);
        c.due("man 0", 1, full.seen());
        TenthMan x = Check.told(Full.rooms(2) + Full.men(12) + "person p at ra to ra coins 1 tact 1;");
        see(x, 6, 0, 0);
        c.due("men without gates", 4094, x.seen());
        TenthMan all = Check.told("room a;" + Full.men(12).replaceAll("not all", "all") + "person p at a to a coins 1 tact 1;");
        see(all, 6, 0, 1);
        c.due("all twelve", 4095, all.seen());
    }

    /** Rooms ra and on, gates such as "ab", people where the letters say. */
    private static TenthMan town(int rooms, String at, String... gates) {
        StringBuilder s = new StringBuilder(Full.rooms(rooms));
        for (int i = 0; i < gates.length; i++) {
            String man = Full.name('m', i);
            s.append("man ").append(man).append(" lets not all bribe 99 tires 1;gate r").append(gates[i].charAt(0)).append(" r");
            s.append(gates[i].charAt(1)).append(" by ").append(man).append(';');
        }
        for (int i = 0; i < at.length(); i++) {
            s.append("person ").append(Full.name('p', i)).append(" at r").append(at.charAt(i)).append(" to ra coins 0 tact 0;");
        }
        return Check.told(s.toString());
    }

    /** Promise 29: "how many minutes (0 when all are there who can be)". */
    private static void there(Check c) {
        c.due("all there", 0, town(2, "aaaaaa", "ab").fire(0));
        c.due("nobody in the town", 0, town(2, "", "ab").fire(0));
        c.due("all but one", 1, town(2, "aabaaa", "ab").fire(0));
        c.due("one who can't be there", 0, town(3, "ac", "ab").fire(0));
        c.due("no gates", 0, town(10, "abcdef").fire(9));
    }

    /** Promise 29: "NONE when there is none such". */
    private static void noRoom(Check c) {
        TenthMan x = Full.town();
        for (int room : FAR) {
            c.due("fire(" + room + ")", -1, x.fire(room));
        }
        c.due("fire(10) of ten", -1, x.fire(10));
        c.due("fire(9) of ten", true, x.fire(9) > 0);
        c.due("fire(2) of two", -1, town(2, "a", "ab").fire(2));
        c.due("fire(0) of none", -1, new TenthMan().fire(0));
    }

    /** III: "how many minutes until all are there who can be". */
    private static void whoCanBe(Check c) {
        c.due("those of the other side stay", 3, town(5, "aeccde", "ab", "bc", "de").fire(0));
        c.due("the farthest", 9, town(10, "a", "ab", "bc", "cd", "de", "ef", "fg", "gh", "hi", "ij").fire(9));
        c.due("six of them so far", 14, town(10, "aaaaaa", "ab", "bc", "cd", "de", "ef", "fg", "gh", "hi", "ij").fire(9));
        c.due("from both ends", 9, town(10, "aj", "ab", "bc", "cd", "de", "ef", "fg", "gh", "hi", "ij").fire(0));
    }

    /** III: "each minute at most one through each GATE". */
    private static void oneThroughEachGate(Check c) {
        for (int people = 1; people <= 6; people++) {
            c.due(people + " by one gate", people, town(2, "b".repeat(people), "ab").fire(0));
            c.due(people + " by two gates", (people + 1) / 2, town(2, "b".repeat(people), "ab", "ba").fire(0));
        }
        c.due("six by twelve gates", 1, town(2, "bbbbbb", "ab", "ab", "ab", "ab", "ab", "ab", "ab", "ab", "ab", "ab", "ab", "ab").fire(0));
        c.due("six by six gates", 1, town(2, "bbbbbb", "ab", "ab", "ab", "ab", "ab", "ab").fire(0));
        c.due("six by five gates", 2, town(2, "bbbbbb", "ab", "ab", "ab", "ab", "ab").fire(0));
    }

    /** III: "by numbers: each one who is not there". */
    private static void byNumbers(Check c) {
        // Person 0 at c, 1 at b: 0 moves to b, 1 to a in the same minute; then 0.
        c.due("the farther one first", 2, town(3, "cb", "ab", "bc").fire(0));
        c.due("the nearer one first", 2, town(3, "bc", "ab", "bc").fire(0));
        // Persons 0, 1 at d; b and c lead to a: 0 by gate 0 to b, 1 by gate 2 to c; 2 at b took gate ab ahead.
        c.due("one at b, too", 3, town(4, "bddb", "db", "ab", "dc", "ca").fire(0));
    }

    /** III: "if the first GATE .. that brings him nearer by steps is not used .. else through the next such one, else he stays". */
    private static void nextSuchOne(Check c) {
        c.due("by b and by d", 2, town(4, "aa", "ab", "ad", "bc", "dc").fire(2));
        c.due("a third one stays a minute", 3, town(4, "aaa", "ab", "ad", "bc", "dc").fire(2));
        c.due("no way round by more steps", 2, town(4, "aa", "ac", "ab", "bd", "dc").fire(2));
        c.due("not by a room as far", 2, town(4, "dd", "da", "db", "ab").fire(0));
        // Both go to b by gates 0 and 1, though d would have spared a minute.
        c.due("the first by numbers, not the wisest", 3, town(4, "aa", "ab", "ba", "bc", "ad", "dc").fire(2));
        c.due("the wisest by numbers", 2, town(4, "aa", "ab", "da", "bc", "ba", "dc").fire(2));
    }

    private static void crowds(Check c) {
        c.due("one behind the other", 7, town(3, "aaaaaa", "ab", "bc").fire(2));
        c.due("from both sides", 3, town(3, "aaaccc", "ab", "bc").fire(1));
        // Nobody is at b in the first minute; from the second on one goes through gate ab in each.
        c.due("the last gate is the narrow one", 7, town(4, "ccccdd", "ab", "bc", "bd").fire(0));
        TenthMan full = Full.town();
        // The farthest are 4 steps off (re by the row; rf has 3 by rg, rh), and none waits for another.
        c.due("a full town to ra", 4, full.fire(0));
        // re is 5 steps off: by the row to ra, then by gate 11.
        c.due("to rj", 5, full.fire(9));
    }

    /** III: "(walls of men count for nothing: all let them)"; it changes nothing. */
    private static void wallsCountForNothing(Check c) {
        TenthMan x = town(3, "aa", "ab", "bc");
        String before = Twins.picture(x);
        c.due("without coins", 3, x.fire(2));
        c.due("nothing changed", true, before.equals(Twins.picture(x)));
        c.due("no act", 0, x.has(10));
        c.due("once more", 3, x.fire(2));
        x.swap(0, 1);
        c.due("men changed", 3, x.fire(2));
        TenthMan y = town(3, "aa", "ab", "bc");
        y.friend(0, 0, true);
        y.friend(0, 1, true);
        c.due("friends", 3, y.fire(2));
        y.go(0);
        c.due("there by now", 3, y.fire(2));
    }
}
