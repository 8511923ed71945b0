import java.util.ArrayList;
import java.util.List;

/** Promises 4 to 32: runs of calls by lot, each answer against Model. */
public final class RunModelTest {
    private final Check c;
    private final TenthMan x = new TenthMan();
    private final Model m = new Model();
    private final Towns lot;
    private String text = "";

    private RunModelTest(Check c, long seed) {
        this.c = c;
        lot = new Towns(seed);
    }

    public static void main(String[] args) {
        Check c = new Check("RunModelTest");
        int runs = args.length > 0 ? Integer.parseInt(args[0]) : 250;
        int from = args.length > 1 ? Integer.parseInt(args[1]) : 0;
        for (int i = from; i < from + runs; i++) {
            RunModelTest run = new RunModelTest(c, 1000 + i);
            run.tell(i % 3 == 0 ? 12 : 6);
            for (int k = 0; k < 300; k++) {
                run.call();
            }
        }
        c.end();
    }

    private void due(String call, long want, long got) {
        c.due(call + " in " + text, want, got);
    }

    private void due(String call, boolean want, boolean got) {
        c.due(call + " in " + text, want, got);
    }

    private void tell(int gates) {
        text = lot.text(gates);
        due("town", m.town(Check.bytes(text)), Check.town(x, text));
    }

    /** A number that mostly is one of so many. */
    private int one(int many) {
        return lot.below(12) == 0 ? lot.below(2) == 0 ? -1 - lot.below(3) : many + lot.below(3) : many > 0 ? lot.below(many) : 0;
    }

    private int room() {
        return one(m.has(0));
    }

    private int man() {
        return one(m.has(1));
    }

    private int gate() {
        return one(m.has(2));
    }

    private int person() {
        return one(m.has(3));
    }

    private void call() {
        switch (lot.below(34)) {
            case 0, 1, 2, 3, 4 -> go();
            case 5 -> hour();
            case 6 -> due("night()", m.night(), x.night());
            case 7, 8 -> friend();
            case 9 -> swap();
            case 10 -> due("lots()", m.lots(), x.lots());
            case 11, 12 -> due("undo()", m.undo(), x.undo());
            case 13 -> seed();
            case 14, 15, 16 -> state();
            case 17, 18 -> lets();
            case 19, 20 -> way();
            case 21 -> reached();
            case 22, 23 -> burglar();
            case 24 -> tact();
            case 25, 26 -> out();
            case 27 -> stand();
            case 28 -> exchange();
            case 29 -> see();
            case 30 -> due("seen()", m.seen(), x.seen());
            case 31 -> fire();
            case 32 -> image();
            default -> seldom();
        }
    }

    private void go() {
        int p = person();
        due("go(" + p + ")", m.go(p), x.go(p));
    }

    private void hour() {
        int h = one(24);
        due("hour(" + h + ")", m.hour(h), x.hour(h));
    }

    private void friend() {
        int p = person();
        int a = man();
        boolean is = lot.below(3) > 0;
        due("friend(" + p + "," + a + "," + is + ")", m.friend(p, a, is), x.friend(p, a, is));
    }

    private void swap() {
        int a = gate();
        int b = gate();
        due("swap(" + a + "," + b + ")", m.swap(a, b), x.swap(a, b));
    }

    private void seed() {
        int s = lot.below(3) == 0 ? Integer.MAX_VALUE - lot.below(4) : lot.below(100000) - 5;
        due("seed(" + s + ")", m.seed(s), x.seed(s));
    }

    private void state() {
        for (int what = -1; what < 12; what++) {
            due("has(" + what + ")", m.has(what), x.has(what));
        }
        int g = gate();
        int a = man();
        int p = person();
        for (int what = -1; what < 7; what++) {
            due("gate(" + g + "," + what + ")", m.gate(g, what), x.gate(g, what));
            due("man(" + a + "," + what + ")", m.man(a, what), x.man(a, what));
            due("person(" + p + "," + what + ")", m.person(p, what), x.person(p, what));
            due("fault(" + what + ")", m.fault(what), x.fault(what));
        }
        int kind = one(3);
        int which = one(6);
        int k = one(6);
        due("letter(" + kind + "," + which + "," + k + ")", m.letter(kind, which, k), x.letter(kind, which, k));
    }

    private void lets() {
        for (int a = -1; a <= m.has(1); a++) {
            int p = person();
            due("lets(" + a + "," + p + ")", m.lets(a, p), x.lets(a, p));
        }
    }

    private void way() {
        int p = person();
        int[] ks = {-2, -1, 0, 1, 2, 3, 4, 5, 6, 7, 8, 9, 10, 12, 19, 20, 21};
        for (int k : ks) {
            due("way(" + p + "," + k + ")", m.way(p, k), x.way(p, k));
        }
    }

    private void reached() {
        int p = person();
        due("reached(" + p + ")", m.reached(p), x.reached(p));
    }

    private void burglar() {
        int p = person();
        int r = room();
        for (int what = -1; what < 3; what++) {
            due("burglar(" + p + "," + r + "," + what + ")", m.burglar(p, r, what), x.burglar(p, r, what));
        }
    }

    private void tact() {
        int p = person();
        due("tact(" + p + ")", m.tact(p), x.tact(p));
    }

    private void out() {
        int p = person();
        due("out(" + p + ")", m.out(p), x.out(p));
    }

    private void stand() {
        if (lot.below(m.has(2) > 4 && m.has(2) < 7 ? 4 : 1) > 0) {
            return;
        }
        int[] ks = {-2, -1, lot.below(8), 20, 21};
        for (int k : ks) {
            due("stand(" + k + ")", m.stand(k), x.stand(k));
        }
    }

    private void exchange() {
        int[] ks = {-2, -1, lot.below(14), 20, 21, 22};
        for (int k : ks) {
            due("exchange(" + k + ")", m.exchange(k), x.exchange(k));
        }
    }

    private void see() {
        int rows = lot.below(8) == 0 ? lot.below(23) : 1 + lot.below(3);
        byte[] tape = new byte[3 * rows];
        int man = Math.max(0, Math.min(m.has(1) - 1, man()));
        for (int i = 0; i < tape.length; i += 3) {
            tape[i] = (byte) lot.below(24);
            tape[i + 1] = (byte) (m.has(3) > 0 ? lot.below(m.has(3)) : 0);
            // Mostly what a man would do now, so that somebody stays.
            tape[i + 2] = (byte) (m.lets(man, tape[i + 1]) == 0 ? 1 : 0);
        }
        if (tape.length > 0 && lot.below(5) == 0) {
            tape[lot.below(tape.length)] = (byte) (lot.below(3) == 0 ? 200 : lot.below(26));
        }
        if (tape.length > 0 && lot.below(12) == 0) {
            tape = java.util.Arrays.copyOf(tape, tape.length - 1);
        }
        Check.put(x, tape);
        due("see()", m.see(tape), x.see());
        due("see went", false, x.end(1));
        due("seen()", m.seen(), x.seen());
    }

    private void fire() {
        int r = room();
        due("fire(" + r + ")", m.fire(r), x.fire(r));
    }

    private void image() {
        due("image()", m.image(), x.image());
        for (int k = -1; k < 90; k++) {
            due("octet(" + k + ")", m.octet(k), x.octet(k));
        }
    }

    /** Images read, other towns, faults. */
    private void seldom() {
        int kind = lot.below(8);
        if (kind == 0) {
            tell(lot.below(2) == 0 ? 12 : 5);
        } else if (kind == 1) {
            String spoilt = lot.spoilt(text);
            int got = Check.town(x, spoilt);
            int want = m.town(Check.bytes(spoilt));
            due("town of " + spoilt, want, got);
            text = want >= 0 ? spoilt : text;
        } else {
            readImage();
        }
    }

    private void readImage() {
        m.image();
        byte[] tape = m.imageBytes();
        due("image()", tape.length, x.image());
        for (int i = lot.below(3); i > 0; i--) {
            int at = lot.below(tape.length);
            tape[at] = (byte) (lot.below(3) == 0 ? lot.below(256) : tape[at] + lot.below(3) - 1);
        }
        int men = m.has(1);
        int gates = m.has(2);
        if (men > 0 && lot.below(3) == 0) {
            tape[3 + gates] = (byte) (199 + lot.below(3));
        }
        if (men > 1 && lot.below(2) == 0) {
            // One coin from purse to purse, which leaves all coins together as they are.
            int rich = 3 + gates + 2;
            if (tape[rich] > 0) {
                tape[rich]--;
                tape[rich + 3]++;
            }
        }
        List<Integer> ahead = new ArrayList<>();
        for (int i = 0; i < tape.length - 1; i++) {
            ahead.add(tape[i] & 255);
        }
        if (lot.below(6) > 0) {
            tape[tape.length - 1] = (byte) Model.sum(ahead);
        }
        if (lot.below(10) == 0) {
            tape = java.util.Arrays.copyOf(tape, tape.length + lot.below(3) - 1);
        }
        Check.put(x, tape);
        due("on()", m.on(tape), x.on());
        due("on went", false, x.end(1));
    }
}
