import java.util.function.Consumer;
import java.util.function.Supplier;
import java.util.function.ToLongFunction;

/**
 * Shows that a refused call did no more than the document says: two objects are brought to the same state, one of
 * them is called, and both answer alike from there on.
 */
final class Twins {
    static final String TOWN = "room a;room b;room c;man k lets tact>50 bribe 3+passed tires 2;"
            + "man l lets hour<4 bribe 4+day tires 9;man m lets who=1 bribe 9 tires 9;"
            + "gate a b by k;gate b c by l;person p at a to c coins 20 tact 0;person q at c to a coins 9 tact 9;hour 6;";

    private Twins() {
    }

    /** Seed, friends, purses, day, acts, an image, what is seen and a tape: nothing is as it is at first. */
    static TenthMan busy() {
        TenthMan x = Check.told(TOWN);
        x.seed(77);
        x.friend(0, 2, true);
        x.go(0);
        x.night();
        x.go(0);
        x.hour(5);
        x.swap(0, 1);
        Check.put(x, Check.bytes(6, 0, 0, 3, 1, 1));
        x.see();
        x.image();
        x.friend(1, 0, true);
        Check.put(x, Check.bytes("room zed;hour 7;"));
        return x;
    }

    /** The same without bytes on the tape, so that a test puts its own. */
    static TenthMan busyWithoutTape() {
        TenthMan x = busy();
        x.end(0);
        return x;
    }

    static void nothingDone(Check c, String name, Supplier<TenthMan> made, ToLongFunction<TenthMan> call, long want) {
        alike(c, name, made, call, want, twin -> { });
    }

    /** As nothingDone, but that the tape goes all the same. */
    static void onlyTapeGoes(Check c, String name, Supplier<TenthMan> made, ToLongFunction<TenthMan> call, long want) {
        alike(c, name, made, call, want, twin -> twin.end(0));
    }

    /** As onlyTapeGoes, but that the fault is told. */
    static void onlyFaultTold(Check c, String name, Supplier<TenthMan> made, int fault, int place) {
        TenthMan called = made.get();
        TenthMan twin = made.get();
        c.due(name, -1, called.town());
        c.due(name + ": fault", fault, called.fault(0));
        c.due(name + ": place", place, called.fault(1));
        twin.end(0);
        compare(c, name, called, twin);
    }

    private static void alike(Check c, String name, Supplier<TenthMan> made, ToLongFunction<TenthMan> call, long want,
            Consumer<TenthMan> instead) {
        TenthMan called = made.get();
        TenthMan twin = made.get();
        c.due(name, want, call.applyAsLong(called));
        instead.accept(twin);
        c.due(name + ": fault", twin.fault(0), called.fault(0));
        c.due(name + ": place", twin.fault(1), called.fault(1));
        compare(c, name, called, twin);
    }

    private static void compare(Check c, String name, TenthMan called, TenthMan twin) {
        c.due(name + ": tape", tapeLength(twin), tapeLength(called));
        samePicture(c, name, called, twin);
        for (int i = 0; i < 21; i++) {
            boolean undone = twin.undo();
            c.due(name + ": undo " + i, undone, called.undo());
            if (!undone) {
                break;
            }
            samePicture(c, name + ", undone " + i, called, twin);
        }
        c.due(name + ": lots", twin.lots(), called.lots());
        samePicture(c, name + ", lots", called, twin);
        c.due(name + ": the tape as a town", twin.town(), called.town());
        c.due(name + ": its fault", twin.fault(0), called.fault(0));
        c.due(name + ": its place", twin.fault(1), called.fault(1));
        samePicture(c, name + ", another town", called, twin);
    }

    private static void samePicture(Check c, String name, TenthMan called, TenthMan twin) {
        String want = picture(twin);
        String got = picture(called);
        c.due(name + " leaves [" + want + "] as [" + got + "]", true, want.equals(got));
    }

    /** How many bytes the tape has; it keeps them. */
    static int tapeLength(TenthMan x) {
        for (int n = 1600; n > 0; n--) {
            if (x.end(n)) {
                return n;
            }
        }
        return 0;
    }

    /** What the state is, in one line. */
    static String picture(TenthMan x) {
        StringBuilder s = new StringBuilder();
        for (int what = 0; what <= 10; what++) {
            s.append(x.has(what)).append(' ');
        }
        for (int gate = 0; gate < x.has(2); gate++) {
            s.append("g").append(x.gate(gate, 0)).append(x.gate(gate, 1)).append(x.gate(gate, 2)).append(' ');
        }
        for (int man = 0; man < x.has(1); man++) {
            s.append("m").append(x.letter(1, man, 0)).append(' ').append(x.man(man, 2)).append(' ').append(x.man(man, 4)).append(' ');
        }
        for (int person = 0; person < x.has(3); person++) {
            s.append("p");
            for (int what = 0; what < 5; what++) {
                s.append(x.person(person, what)).append(' ');
            }
            s.append(x.lets(0, person)).append(' ').append(x.way(person, -1)).append(' ');
        }
        s.append("s").append(x.seen()).append(" f").append(x.fire(0));
        s.append(" e").append(x.exchange(-1)).append(' ').append(x.exchange(20)).append(" t").append(x.stand(20)).append(" i");
        for (int k = 0; k < 30 && x.octet(k) >= 0; k++) {
            s.append(' ').append(x.octet(k));
        }
        return s.toString();
    }
}
