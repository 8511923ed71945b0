/** The edges of promises 1 to 3, a test for each sentence that names one. */
public final class TapeEdgesTest {
    public static void main(String[] args) {
        Check c = new Check("TapeEdgesTest");
        noRoomsNobody(c);
        allIsRefusedAtFirst(c);
        highestFirst(c);
        behindThoseOnTheTape(c);
        howManyThereAre(c);
        noMoreThan1600(c);
        firstBytesAlone(c);
        notSoMany(c);
        below0(c);
        c.end();
    }

    /** Promise 1: "No ROOMS, nobody." */
    private static void noRoomsNobody(Check c) {
        TenthMan x = new TenthMan();
        for (int what = 0; what <= 10; what++) {
            c.due("has(" + what + ") of a new one", 0, x.has(what));
        }
        c.due("stand people", 0, x.stand(-1));
        c.due("stand coins", 0, x.stand(20));
        c.due("exchange people", 0, x.exchange(-1));
        c.due("exchange coins", 0, x.exchange(20));
        c.due("exchanges", 0, x.exchange(21));
    }

    private static void allIsRefusedAtFirst(Check c) {
        TenthMan x = new TenthMan();
        c.due("letter", -1, x.letter(0, 0, 0));
        c.due("gate", -1, x.gate(0, 0));
        c.due("man", -1, x.man(0, 0));
        c.due("person", -1, x.person(0, 0));
        c.due("lets", -1, x.lets(0, 0));
        c.due("way", -1, x.way(0, -1));
        c.due("reached", -1, x.reached(0));
        c.due("go", -1, x.go(0));
        c.due("friend", false, x.friend(0, 0, true));
        c.due("friend no more", false, x.friend(0, 0, false));
        c.due("swap", false, x.swap(0, 1));
        c.due("lots", -1, x.lots());
        c.due("undo", false, x.undo());
        c.due("burglar", -1, x.burglar(0, 0, 0));
        c.due("tact", -1, x.tact(0));
        c.due("out", -1, x.out(0));
        c.due("stand(0)", -1, x.stand(0));
        c.due("exchange(0)", -1, x.exchange(0));
        c.due("see", -1, x.see());
        c.due("seen", -1, x.seen());
        c.due("fire", -1, x.fire(0));
        c.due("octet", -1, x.octet(0));
        c.due("on", false, x.on());
        c.due("no act", 0, x.has(10));
    }

    /** Promise 2: "of each number the highest first" (a byte above 127 in each place, too). */
    private static void highestFirst(Check c) {
        // day 1 and 2, hour 3, and its sum; then once more with bytes above 127: day 3 and 231.
        TenthMan x = new TenthMan();
        x.feed(0x01020300 | sum(1, 2, 3), 0, 0, 0, 0);
        x.end(4);
        c.due("on", true, x.on());
        c.due("day", 258, x.has(5));
        c.due("hour", 3, x.has(4));
        x.feed(0x03e71700 | sum(3, 231, 23), 0, 0, 0, 0);
        x.end(4);
        c.due("on", true, x.on());
        c.due("day", 999, x.has(5));
        // The fault's place tells where each of the 20 bytes is.
        int blanks = 0x20202020;
        for (int place = 0; place < 20; place++) {
            int[] n = {blanks, blanks, blanks, blanks, blanks};
            int shift = 24 - 8 * (place % 4);
            n[place / 4] = blanks & ~(255 << shift) | 0xe9 << shift;
            x.feed(n[0], n[1], n[2], n[3], n[4]);
            c.due("a town with byte " + place, -1, x.town());
            c.due("the place of byte " + place, place, x.fault(1));
        }
    }

    private static int sum(int... bytes) {
        int s = 157;
        for (int b : bytes) {
            s = (3 * s + b) % 247;
        }
        return s;
    }

    /** Promise 2: "Twenty bytes come behind those on the tape". */
    private static void behindThoseOnTheTape(Check c) {
        TenthMan x = new TenthMan();
        x.feed(0x686f7572, 0x20373b21, 0x21212121, 0x21212121, 0x21212121);
        c.due("end behind hour 7;", true, x.end(7));
        c.due("feed", 27, x.feed(0x686f7572, 0x20383b20, 0x20202020, 0x20202020, 0x20202020));
        c.due("two hours", 2, x.town());
        c.due("the last one", 8, x.has(4));
    }

    /** Promise 2: "how many there are". */
    private static void howManyThereAre(Check c) {
        TenthMan x = new TenthMan();
        for (int i = 1; i <= 80; i++) {
            c.due("feed " + i, 20 * i, x.feed(0, 0, 0, 0, 0));
        }
    }

    /** Promise 2: "NONE, doing nothing, if there would be more than 1600." */
    private static void noMoreThan1600(Check c) {
        c.due("feed at 1580", 1600, taped(1580).feed(0, 0, 0, 0, 0));
        for (int n : new int[] {1581, 1599, 1600}) {
            Twins.nothingDone(c, "feed at " + n, () -> taped(n), x -> x.feed(0x21212121, 1, 2, 3, 4), -1);
        }
        TenthMan x = taped(1600);
        x.feed(0, 0, 0, 0, 0);
        c.due("a text of 1600 bytes", 1, x.town());
    }

    /** A text of one statement and blanks, n bytes long. */
    private static TenthMan taped(int n) {
        TenthMan x = Twins.busyWithoutTape();
        Check.put(x, Check.bytes("room abcdef;" + " ".repeat(n - 12)));
        return x;
    }

    /** Promise 3: "The tape has its first n bytes alone: true". */
    private static void firstBytesAlone(Check c) {
        TenthMan x = new TenthMan();
        Check.put(x, Check.bytes("hour 1;hour 2;hour 3"));
        c.due("all of them", true, x.end(20));
        c.due("20 as before", 40, x.feed(0, 0, 0, 0, 0));
        c.due("end(14)", true, x.end(14));
        c.due("two statements", 2, x.town());
        c.due("hour", 2, x.has(4));
        Check.put(x, Check.bytes("hour 1;hour 2;hour 3"));
        c.due("end(0)", true, x.end(0));
        c.due("nothing left", false, x.end(1));
        c.due("a town of nothing", 0, x.town());
        c.due("end(0) of nothing", true, x.end(0));
    }

    /** Promise 3: "false, doing nothing, if it has not so many". */
    private static void notSoMany(Check c) {
        for (int n : new int[] {17, 20, 1600, 1601, Integer.MAX_VALUE}) {
            Twins.nothingDone(c, "end(" + n + ") of 16", Twins::busy, x -> x.end(n) ? 1 : 0, 0);
        }
        Twins.nothingDone(c, "end(1) of none", Twins::busyWithoutTape, x -> x.end(1) ? 1 : 0, 0);
        c.due("end(16) of 16", true, Twins.busy().end(16));
    }

    /** Promise 3: "or n is below 0". */
    private static void below0(Check c) {
        for (int n : new int[] {-1, -16, Integer.MIN_VALUE}) {
            Twins.nothingDone(c, "end(" + n + ")", Twins::busy, x -> x.end(n) ? 1 : 0, 0);
        }
    }
}
