/** Promises 30 to 32: image, octet, on. */
public final class ImageTest {
    private static final String TOWN = "room a;room b;room c;man k lets not all bribe 3 tires 2;man l lets all bribe 4 tires 9;"
            + "man m lets not all bribe 9 tires 9;gate a b by m;gate b c by k;person p at a to c coins 300 tact 0;"
            + "person q at c to c coins 1 tact 0;hour 7;";
    /** Day 0, hour 7; men 2, 0; three men; two people. */
    private static final int[] FIRST = {0, 0, 7, 2, 0, 0, 0, 0, 0, 0, 0, 0, 0, 0, 0, 2, 1, 44, 0, 0, 2, 2, 0, 1, 0, 0};

    public static void main(String[] args) {
        Check c = new Check("ImageTest");
        written(c);
        afterActs(c);
        readBack(c);
        refused(c);
        allowed(c);
        ofNothing(c);
        c.end();
    }

    private static int[] summed(int... bytes) {
        int[] whole = java.util.Arrays.copyOf(bytes, bytes.length + 1);
        int s = 157;
        for (int b : bytes) {
            s = (3 * s + b) % 247;
        }
        whole[bytes.length] = s;
        return whole;
    }

    private static void isImage(Check c, String name, TenthMan x, int... want) {
        c.due(name + " length", want.length, x.image());
        for (int k = 0; k < want.length; k++) {
            c.due(name + " byte " + k, want[k], x.octet(k));
        }
        c.due(name + " behind", -1, x.octet(want.length));
        c.due(name + " ahead", -1, x.octet(-1));
    }

    private static boolean on(TenthMan x, int... bytes) {
        Check.put(x, Check.bytes(bytes));
        return x.on();
    }

    private static void written(Check c) {
        TenthMan x = Check.told(TOWN);
        c.due("no image yet", -1, x.octet(0));
        isImage(c, "told", x, summed(FIRST));
        x.hour(3);
        c.due("the latest image stays", 7, x.octet(2));
        Check.town(x, "hour 1;");
        c.due("behind another town, too", 7, x.octet(2));
        c.due("no image is on the tape", false, x.end(1));
    }

    private static void afterActs(Check c) {
        TenthMan x = Check.told(TOWN);
        c.due("go", 12, x.go(0));
        x.friend(0, 2, true);
        x.friend(1, 0, true);
        x.swap(0, 1);
        isImage(c, "acts", x, summed(0, 0, 7, 0, 2, 1, 0, 3, 0, 0, 0, 1, 0, 9, 2, 0, 1, 32, 0, 4, 2, 2, 0, 1, 0, 1));
        for (int i = 0; i < 300; i++) {
            x.night();
        }
        isImage(c, "day 300", x, summed(1, 44, 0, 0, 2, 0, 0, 3, 0, 0, 0, 0, 0, 9, 2, 0, 1, 32, 0, 4, 2, 2, 0, 1, 0, 1));
    }

    private static void readBack(Check c) {
        int[] acted = summed(1, 44, 23, 0, 2, 1, 0, 3, 0, 0, 0, 200, 0, 9, 2, 0, 1, 32, 0, 4, 2, 2, 0, 1, 0, 7);
        TenthMan x = Check.told(TOWN);
        x.hour(4);
        Check.put(x, Check.bytes(3, 0, 1));
        x.see();
        int seen = x.seen();
        c.due("on", true, on(x, acted));
        c.due("the tape went", false, x.end(1));
        c.due("nothing to undo", 0, x.has(10));
        c.due("undo", false, x.undo());
        c.due("seen stays", seen, x.seen());
        c.due("day", 300, x.has(5));
        c.due("hour", 23, x.has(4));
        c.due("gate 0", 0, x.gate(0, 2));
        c.due("gate 1", 2, x.gate(1, 2));
        c.due("m has let", 200, x.man(2, 2));
        c.due("m's purse", 9, x.man(2, 4));
        c.due("p's coins", 288, x.person(0, 2));
        c.due("p's friends", 4, x.person(0, 4));
        c.due("q's friends", 7, x.person(1, 4));
        isImage(c, "again", x, acted);
        c.due("k alone is paid", 3, x.way(0, -1));
        x.go(0);
        c.due("200 are counted at most", 200, x.man(2, 2));
    }

    private static void spoilt(Check c, String name, int at, int value) {
        int[] bytes = FIRST.clone();
        bytes[at] = value;
        TenthMan x = Check.told(TOWN);
        x.hour(9);
        c.due(name, false, on(x, summed(bytes)));
        c.due(name + ": the tape went", false, x.end(1));
        c.due(name + ": acts stay", 1, x.has(10));
        c.due(name + ": hour stays", 9, x.has(4));
        x.undo();
        isImage(c, name + ": all stays", x, summed(FIRST));
    }

    private static void refused(Check c) {
        spoilt(c, "day 1000", 0, 4);
        spoilt(c, "hour 24", 2, 24);
        spoilt(c, "man l at gate 0", 3, 1);
        spoilt(c, "man k twice", 3, 0);
        spoilt(c, "man 3", 3, 3);
        spoilt(c, "man 255", 4, 255);
        spoilt(c, "man 34, which is 2 by five bits", 3, 34);
        spoilt(c, "201 let through", 5, 201);
        spoilt(c, "a coin more in a purse", 7, 1);
        spoilt(c, "a room 3 where he is", 14, 3);
        spoilt(c, "a room 3 where he goes", 15, 3);
        spoilt(c, "a coin more", 17, 45);
        spoilt(c, "a coin less", 17, 43);
        spoilt(c, "a fourth man's friend", 19, 8);
        spoilt(c, "a friend far above", 18, 128);
        TenthMan x = Check.told(TOWN);
        int[] good = summed(FIRST);
        int[] wrongSum = good.clone();
        wrongSum[good.length - 1] ^= 1;
        c.due("a wrong sum", false, on(x, wrongSum));
        c.due("too short", false, on(x, java.util.Arrays.copyOf(good, good.length - 1)));
        c.due("too long", false, on(x, summed(good)));
        c.due("nothing", false, on(x));
        c.due("the good one", true, on(x, good));
        day(c, x);
    }

    private static void day(Check c, TenthMan x) {
        int[] bytes = FIRST.clone();
        bytes[0] = 3;
        bytes[1] = 231;
        c.due("day 999", true, on(x, summed(bytes)));
        c.due("day", 999, x.has(5));
        bytes[1] = 232;
        c.due("day 1000", false, on(x, summed(bytes)));
        c.due("day", 999, x.has(5));
    }

    /** What no run of acts could bring about, but the document does not refuse. */
    private static void allowed(Check c) {
        int[] bytes = FIRST.clone();
        // All coins to q, 301; the man l without a gate has let 7 through.
        bytes[16] = 0;
        bytes[17] = 0;
        bytes[22] = 1;
        bytes[23] = 45;
        bytes[8] = 7;
        TenthMan x = Check.told(TOWN);
        c.due("on", true, on(x, summed(bytes)));
        c.due("q's coins", 301, x.person(1, 2));
        c.due("l has let", 7, x.man(1, 2));
        // A coin in l's purse.
        bytes[23] = 44;
        bytes[10] = 1;
        c.due("on", true, on(x, summed(bytes)));
        c.due("l's purse", 1, x.man(1, 4));
        // q without a way from where he is; the same room for both wishes.
        bytes[14] = 2;
        bytes[15] = 2;
        c.due("on", true, on(x, summed(bytes)));
        c.due("place", 2, x.person(0, 0));
    }

    private static void ofNothing(Check c) {
        TenthMan x = new TenthMan();
        isImage(c, "nothing", x, 0, 0, 0, 40);
        c.due("on", true, on(x, summed(0, 5, 6)));
        c.due("day", 5, x.has(5));
        c.due("hour", 6, x.has(4));
        c.due("an image of another town", false, on(x, summed(FIRST)));
        StringBuilder s = new StringBuilder("room a;room b;");
        for (int i = 0; i < 12; i++) {
            s.append("man m").append((char) ('a' + i)).append(" lets not all bribe 99 tires 20;gate a b by m").append((char) ('a' + i)).append(";");
        }
        for (int i = 0; i < 6; i++) {
            s.append("person p").append((char) ('a' + i)).append(" at a to b coins 999 tact 0;");
        }
        TenthMan full = Check.told(s.toString());
        c.due("the longest", 88, full.image());
        c.due("octet 87", true, full.octet(87) >= 0);
        c.due("octet 88", -1, full.octet(88));
        for (int i = 0; i < 12; i++) {
            full.friend(5, i, true);
        }
        full.image();
        c.due("friends high", 15, full.octet(85));
        c.due("friends low", 255, full.octet(86));
    }
}
