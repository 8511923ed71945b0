import java.util.Arrays;

/** The edges of AN IMAGE (III, promises 30 to 32), a test for each sentence that names one. */
public final class ImageEdgesTest {
    /** Three rooms, four men (k without a gate), two gates, two people; 300 and 7 coins. */
    private static final String TOWN = "room a;room b;room d;man k lets not all bribe 3 tires 2;man l lets all bribe 4 tires 9;"
            + "man m lets not all bribe 9 tires 9;man n lets not all bribe 1 tires 9;gate a b by n;gate b d by l;"
            + "person p at a to d coins 300 tact 0;person q at d to b coins 7 tact 0;hour 7;";
    private static final int[] TOLD = {0, 0, 7, 3, 1, 0, 0, 0, 0, 0, 0, 0, 0, 0, 0, 0, 0, 0, 2, 1, 44, 0, 0, 2, 1, 0, 7, 0, 0};
    private static final int GATE = 3;
    private static final int MAN = 5;
    private static final int PERSON = 17;
    private static final int[] FAR = {Integer.MIN_VALUE, -257, -2, -1, 30, 31, 88, 256, 1600, Integer.MAX_VALUE};

    public static void main(String[] args) {
        Check c = new Check("ImageEdgesTest");
        howManyBytes(c);
        eachByte(c);
        twoBytesTheHigherFirst(c);
        lastByte(c);
        latestImage(c);
        noSuchByte(c);
        allIsAsItTells(c);
        tapeGoes(c);
        nothingCanBeUndone(c);
        asLongAsAnImage(c);
        wrongSum(c);
        dayAndHour(c);
        menWhoStandThere(c);
        roomsThatThereAre(c);
        letThrough200(c);
        friendsThatAreMen(c);
        coinsTogether(c);
        fullTowns(c);
        ofAnotherTown(c);
        c.end();
    }

    private static int sum(int... bytes) {
        int s = 157;
        for (int b : bytes) {
            s = (3 * s + b) % 247;
        }
        return s;
    }

    private static int[] summed(int... bytes) {
        int[] whole = Arrays.copyOf(bytes, bytes.length + 1);
        whole[bytes.length] = sum(bytes);
        return whole;
    }

    /** What was told, with some bytes changed: place, value, place, value. */
    private static int[] changed(int... changes) {
        int[] bytes = TOLD.clone();
        for (int i = 0; i < changes.length; i += 2) {
            bytes[changes[i]] = changes[i + 1];
        }
        return summed(bytes);
    }

    private static boolean on(TenthMan x, int... bytes) {
        Check.put(x, Check.bytes(bytes));
        return x.on();
    }

    private static void imageIs(Check c, String name, TenthMan x, int... want) {
        c.due(name + ": bytes", want.length, x.image());
        for (int k = 0; k < want.length; k++) {
            c.due(name + ": byte " + k, want[k], x.octet(k));
        }
        c.due(name + ": none behind", -1, x.octet(want.length));
    }

    /** It is read, and an image of it then is the same. */
    private static void taken(Check c, String name, int... bytes) {
        TenthMan x = Check.told(TOWN);
        x.hour(9);
        c.due(name, true, on(x, bytes));
        c.due(name + ": nothing can be undone", 0, x.has(10));
        imageIs(c, name, x, bytes);
    }

    /** "false when it is none .. all staying" (but for the tape, which goes). */
    private static void refused(Check c, String name, int... bytes) {
        Twins.onlyTapeGoes(c, name, () -> {
            TenthMan x = Check.told(TOWN);
            x.seed(9);
            x.go(0);
            x.friend(1, 2, true);
            Check.put(x, Check.bytes(6, 0, 0));
            x.see();
            x.image();
            x.night();
            Check.put(x, Check.bytes(bytes));
            return x;
        }, x -> x.on() ? 1 : 0, 0);
    }

    /** Promise 30: "how many bytes". */
    private static void howManyBytes(Check c) {
        c.due("of nothing", 4, new TenthMan().image());
        c.due("rooms have none", 4, Check.told(Full.rooms(10)).image());
        c.due("a man has three", 7, Check.told(Full.men(1)).image());
        c.due("a gate has one", 8, Check.told(Full.rooms(2) + Full.men(1) + Full.gates(1)).image());
        c.due("a person has six", 10, Check.told(Full.rooms(2) + Full.people(1)).image());
        c.due("the town here", 30, Check.told(TOWN).image());
        c.due("the longest", 88, Full.town().image());
    }

    /** III: "day (two bytes ..), hour; for each GATE its MAN; for each MAN ..; for each PERSON ..". */
    private static void eachByte(Check c) {
        TenthMan x = Check.told(TOWN);
        imageIs(c, "as told", x, summed(TOLD));
        c.due("go", 1, x.go(0));
        x.swap(0, 1);
        x.friend(1, 3, true);
        x.friend(1, 0, true);
        x.hour(23);
        imageIs(c, "acts", x, summed(0, 0, 23, 1, 3, 0, 0, 0, 1, 0, 0, 0, 0, 0, 1, 0, 1, 2, 0, 1, 43, 0, 0, 2, 1, 0, 7, 0, 9));
        x.night();
        imageIs(c, "a night", x, summed(0, 1, 0, 1, 3, 0, 0, 0, 0, 0, 0, 0, 0, 0, 0, 0, 1, 2, 0, 1, 43, 0, 0, 2, 1, 0, 7, 0, 9));
        c.due("an image is no act", 6, x.has(10));
    }

    /** III: "two bytes, the higher first": day, purse, coins, FRIENDS at 255, 256 and the most. */
    private static void twoBytesTheHigherFirst(Check c) {
        taken(c, "day 255", changed(1, 255));
        taken(c, "day 256", changed(0, 1));
        taken(c, "day 999", changed(0, 3, 1, 231));
        taken(c, "purse 255", changed(MAN + 2, 255, PERSON + 2, 0, PERSON + 3, 45));
        taken(c, "purse 256", changed(MAN + 10, 1, PERSON + 2, 0, PERSON + 3, 44));
        taken(c, "coins 307", changed(PERSON + 3, 51, PERSON + 9, 0));
        taken(c, "coins 256", changed(PERSON + 3, 0, PERSON + 9, 51));
        TenthMan full = Full.town();
        for (int man = 0; man < 12; man++) {
            full.friend(0, man, true);
            full.image();
            int bits = (2 << man) - 1;
            c.due("friends high, man " + man, bits >> 8, full.octet(55));
            c.due("friends low, man " + man, bits & 255, full.octet(56));
        }
    }

    /** III: "last a byte: all ahead from 157 on, c = (3 c + it) mod 247". */
    private static void lastByte(Check c) {
        TenthMan x = new TenthMan();
        imageIs(c, "of nothing", x, 0, 0, 0, 40);
        for (int day = 0; day < 300; day++) {
            x.image();
            c.due("day " + day, sum(day >> 8, day & 255, 0), x.octet(3));
            x.night();
        }
    }

    /** Promise 31: "Byte k of the latest image()". */
    private static void latestImage(Check c) {
        TenthMan x = Check.told(TOWN);
        c.due("none so far", -1, x.octet(0));
        x.image();
        x.hour(3);
        x.go(0);
        c.due("as it was", 7, x.octet(2));
        x.undo();
        on(x, changed(2, 9));
        c.due("on() leaves it", 7, x.octet(2));
        Check.town(x, "hour 1;");
        c.due("town() leaves it", 3, x.octet(GATE));
        c.due("its length, too", sum(TOLD), x.octet(29));
        c.due("a shorter one", 4, x.image());
        c.due("its hour", 1, x.octet(2));
        c.due("its sum", sum(0, 0, 1), x.octet(3));
        c.due("none behind it", -1, x.octet(4));
    }

    /** Promise 31: "NONE when there is none such". */
    private static void noSuchByte(Check c) {
        TenthMan x = Check.told(TOWN);
        for (int k = 0; k < 90; k++) {
            c.due("octet(" + k + ") ahead of any", -1, x.octet(k));
        }
        x.image();
        for (int k : FAR) {
            c.due("octet(" + k + ")", -1, x.octet(k));
        }
        c.due("the last one", sum(TOLD), x.octet(29));
        TenthMan full = Full.town();
        full.image();
        c.due("byte 87", true, full.octet(87) >= 0);
        c.due("byte 88", -1, full.octet(88));
    }

    /** Promise 32: "true, all is as it tells". */
    private static void allIsAsItTells(Check c) {
        TenthMan x = Check.told(TOWN);
        x.friend(0, 0, true);
        x.go(0);
        c.due("on", true, on(x, changed(0, 2, 1, 1, 2, 22, GATE, 1, GATE + 1, 3, MAN, 5, MAN + 3, 9, MAN + 4, 0, MAN + 5, 6, PERSON, 1,
                PERSON + 1, 1, PERSON + 3, 38, PERSON + 5, 6, PERSON + 6, 0, PERSON + 7, 2, PERSON + 11, 8)));
        int[] has = {3, 4, 2, 2, 22, 513, 2, 301, 6, 3, 0};
        for (int what = 0; what < has.length; what++) {
            c.due("has(" + what + ")", has[what], x.has(what));
        }
        int[][] people = {{1, 1, 294, 0, 6}, {0, 2, 7, 0, 8}};
        for (int person = 0; person < 2; person++) {
            for (int what = 0; what < 5; what++) {
                c.due("person(" + person + ", " + what + ")", people[person][what], x.person(person, what));
            }
        }
        int[][] men = {{-1, 2, 5, 1, 0, 0}, {0, 9, 9, 1, 6, 1}, {-1, 9, 0, 0, 0, 1}, {1, 9, 0, 0, 0, 1}};
        for (int man = 0; man < 4; man++) {
            for (int what = 0; what < 6; what++) {
                c.due("man(" + man + ", " + what + ")", men[man][what], x.man(man, what));
            }
        }
        c.due("the way of q", 0, x.way(1, -1));
        c.due("its gates", 2, x.way(1, 20));
    }

    /** Promise 32: "The tape (it goes)". */
    private static void tapeGoes(Check c) {
        TenthMan x = Check.told(TOWN);
        on(x, summed(TOLD));
        c.due("behind a good one", 0, Twins.tapeLength(x));
        on(x, 1, 2, 3);
        c.due("behind a wrong one", 0, Twins.tapeLength(x));
    }

    /** Promise 32: "nothing can be undone"; what is SEEN and the seed stay. */
    private static void nothingCanBeUndone(Check c) {
        TenthMan x = Check.told(TOWN);
        x.hour(3);
        x.night();
        Check.put(x, Check.bytes(6, 0, 0));
        x.see();
        int seen = x.seen();
        c.due("two acts", 2, x.has(10));
        c.due("on", true, on(x, summed(TOLD)));
        c.due("no acts", 0, x.has(10));
        c.due("undo", false, x.undo());
        c.due("seen stays", seen, x.seen());
        x.hour(5);
        c.due("an act", true, x.undo());
        c.due("and no more", false, x.undo());
        c.due("the hour told", 7, x.has(4));
    }

    private static void asLongAsAnImage(Check c) {
        int[] good = summed(TOLD);
        taken(c, "just so long", good);
        refused(c, "nothing");
        refused(c, "its last byte missing", TOLD);
        refused(c, "one byte less, with its sum", summed(Arrays.copyOf(TOLD, TOLD.length - 1)));
        refused(c, "one byte more, with its sum", summed(Arrays.copyOf(TOLD, TOLD.length + 1)));
        refused(c, "a byte behind", Arrays.copyOf(good, good.length + 1));
        refused(c, "blanks behind", Arrays.copyOf(good, 40));
        refused(c, "of nothing", 0, 0, 0, 40);
        TenthMan x = Check.told(TOWN);
        Check.put(x, Check.bytes(Arrays.copyOf(good, 40)));
        x.end(30);
        c.due("cut to its length", true, x.on());
    }

    private static void wrongSum(Check c) {
        int[] good = summed(TOLD);
        for (int add : new int[] {1, 2, 128, 246, 247, 255}) {
            int[] wrong = good.clone();
            wrong[29] = wrong[29] + add & 255;
            refused(c, "its sum and " + add, wrong);
        }
        for (int k = 0; k < 29; k++) {
            int[] wrong = good.clone();
            wrong[k] ^= 1;
            c.due("byte " + k + " spoilt", false, on(Check.told(TOWN), wrong));
        }
    }

    /** Promise 32: "day 999, hour 23 at most". */
    private static void dayAndHour(Check c) {
        taken(c, "day 0", changed());
        taken(c, "day 998", changed(0, 3, 1, 230));
        taken(c, "day 999", changed(0, 3, 1, 231));
        refused(c, "day 1000", changed(0, 3, 1, 232));
        refused(c, "day 1024", changed(0, 4));
        refused(c, "day 65535", changed(0, 255, 1, 255));
        taken(c, "hour 0", changed(2, 0));
        taken(c, "hour 23", changed(2, 23));
        refused(c, "hour 24", changed(2, 24));
        refused(c, "hour 255", changed(2, 255));
        taken(c, "both at most", changed(0, 3, 1, 231, 2, 23));
    }

    /** Promise 32: "at GATES the MEN who stand there as told, in any order". */
    private static void menWhoStandThere(Check c) {
        taken(c, "n, l", changed(GATE, 3, GATE + 1, 1));
        taken(c, "l, n", changed(GATE, 1, GATE + 1, 3));
        refused(c, "l twice", changed(GATE, 1, GATE + 1, 1));
        refused(c, "n twice", changed(GATE, 3, GATE + 1, 3));
        refused(c, "k, who has no gate", changed(GATE, 0));
        refused(c, "m, who has no gate", changed(GATE + 1, 2));
        refused(c, "a man 4", changed(GATE, 4));
        refused(c, "a man 12", changed(GATE, 12));
        refused(c, "a man 13", changed(GATE, 13));
        refused(c, "a man 35", changed(GATE, 35));
        refused(c, "a man 33", changed(GATE + 1, 33));
        refused(c, "a man 255", changed(GATE + 1, 255));
        TenthMan x = Check.told(TOWN);
        x.swap(0, 1);
        c.due("as told, not as they stand now", true, on(x, summed(TOLD)));
        c.due("gate 0", 3, x.gate(0, 2));
    }

    /** Promise 32: "ROOMS that there are". */
    private static void roomsThatThereAre(Check c) {
        for (int person = PERSON; person <= PERSON + 6; person += 6) {
            for (int room = 0; room < 3; room++) {
                taken(c, "is in " + room, changed(person, room));
                taken(c, "goes to " + room, changed(person + 1, room));
            }
            for (int room : new int[] {3, 10, 255}) {
                refused(c, "is in " + room, changed(person, room));
                refused(c, "goes to " + room, changed(person + 1, room));
            }
        }
    }

    /** Promise 32: "200 let through at most". */
    private static void letThrough200(Check c) {
        for (int man = 0; man < 4; man++) {
            taken(c, "199 by man " + man, changed(MAN + 3 * man, 199));
            taken(c, "200 by man " + man, changed(MAN + 3 * man, 200));
            refused(c, "201 by man " + man, changed(MAN + 3 * man, 201));
            refused(c, "255 by man " + man, changed(MAN + 3 * man, 255));
        }
        TenthMan x = Check.told(TOWN);
        c.due("on", true, on(x, changed(MAN + 9, 199)));
        x.go(0);
        c.due("one more", 200, x.man(3, 2));
        x.go(0);
        c.due("no more are counted", 200, x.man(3, 2));
    }

    /** Promise 32: "FRIENDS that are MEN". */
    private static void friendsThatAreMen(Check c) {
        for (int person = PERSON; person <= PERSON + 6; person += 6) {
            taken(c, "none", changed(person + 5, 0));
            taken(c, "all four", changed(person + 5, 15));
            taken(c, "the fourth", changed(person + 5, 8));
            refused(c, "a fifth", changed(person + 5, 16));
            refused(c, "a fifth and all", changed(person + 5, 31));
            refused(c, "an eighth", changed(person + 5, 128));
            refused(c, "a ninth", changed(person + 4, 1));
            refused(c, "a sixteenth", changed(person + 4, 128));
        }
    }

    /** Promise 32: "coins and purses together as told". */
    private static void coinsTogether(Check c) {
        taken(c, "a coin from p to k", changed(PERSON + 3, 43, MAN + 2, 1));
        taken(c, "a coin from q to n", changed(PERSON + 9, 6, MAN + 11, 1));
        taken(c, "a coin from p to q", changed(PERSON + 3, 43, PERSON + 9, 8));
        taken(c, "all to m", changed(PERSON + 2, 0, PERSON + 3, 0, PERSON + 9, 0, MAN + 7, 1, MAN + 8, 51));
        refused(c, "a coin more of p", changed(PERSON + 3, 45));
        refused(c, "a coin less of p", changed(PERSON + 3, 43));
        refused(c, "a coin more of q", changed(PERSON + 9, 8));
        refused(c, "a coin less of q", changed(PERSON + 9, 6));
        for (int man = 0; man < 4; man++) {
            refused(c, "a coin more of man " + man, changed(MAN + 3 * man + 2, 1));
            refused(c, "256 coins more of man " + man, changed(MAN + 3 * man + 1, 1));
            refused(c, "255 times 256 of man " + man, changed(MAN + 3 * man + 1, 255));
        }
        TenthMan x = Check.told(TOWN);
        x.go(0);
        c.due("a coin is n's", 1, x.man(3, 4));
        c.due("as told, not as they are now", true, on(x, summed(TOLD)));
        c.due("p has all", 300, x.person(0, 2));
    }

    /** Images of towns that have as many of each kind as can be. */
    private static void fullTowns(Check c) {
        TenthMan x = Full.town();
        x.lots();
        for (int man = 0; man < 12; man++) {
            x.friend(5, man, true);
        }
        x.go(5);
        x.night();
        int length = x.image();
        int[] bytes = new int[length];
        for (int k = 0; k < length; k++) {
            bytes[k] = x.octet(k);
        }
        TenthMan other = Full.town();
        c.due("of a full town", true, on(other, bytes));
        String want = Twins.picture(x).replaceFirst("(\\S+ ){11}", "");
        Twins.nothingDone(c, "read and read again", () -> {
            TenthMan y = Full.town();
            on(y, bytes);
            return y;
        }, y -> on(y, bytes) ? 1 : 0, 1);
        other.image();
        c.due("the same", true, want.equals(Twins.picture(other).replaceFirst("(\\S+ ){11}", "")));
        for (int k = 0; k < length; k++) {
            c.due("byte " + k, bytes[k], other.octet(k));
        }
        int[] spoilt = Arrays.copyOf(bytes, length - 1);
        spoilt[length - 2] = 255;
        spoilt[length - 3] = 31;
        c.due("a thirteenth man", false, on(other, summed(spoilt)));
        spoilt[length - 3] = 15;
        c.due("twelve men", true, on(other, summed(spoilt)));
        // All coins, 150, and 201 more told: in the first man's purse.
        TenthMan rich = Check.told(Full.text().replace("coins 0", "coins 201"));
        rich.image();
        int[] row = new int[87];
        for (int k = 0; k < 87; k++) {
            row[k] = rich.octet(k);
        }
        row[17] = 201;
        row[54] = 0;
        c.due("201 coins in the first man's purse", true, on(rich, summed(row)));
        c.due("are there", 201, rich.man(0, 4));
    }

    private static void ofAnotherTown(Check c) {
        TenthMan x = Check.told(TOWN.replace("coins 7", "coins 8"));
        c.due("other coins told", false, on(x, summed(TOLD)));
        TenthMan y = Check.told(TOWN.replace("gate b d by l", "gate b d by m"));
        c.due("other men at gates", false, on(y, summed(TOLD)));
        TenthMan z = Check.told(TOWN.replace("tires 2", "tires 3"));
        c.due("what the image doesn't tell may be otherwise", true, on(z, summed(TOLD)));
        c.due("an image of nothing", true, on(new TenthMan(), 0, 0, 0, 40));
        c.due("an image of a town in none", false, on(new TenthMan(), summed(TOLD)));
        TenthMan grown = Full.town();
        grown.image();
        int[] full = new int[88];
        for (int k = 0; k < 88; k++) {
            full[k] = grown.octet(k);
        }
        c.due("a full one", true, on(grown, full));
        Check.town(grown, TOWN);
        c.due("the full one in a smaller town", false, on(grown, full));
        c.due("and the smaller town's", true, on(grown, summed(TOLD)));
    }
}
