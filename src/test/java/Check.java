import java.nio.charset.StandardCharsets;

/** Counts wrong answers of one test and feeds texts to a TenthMan. */
final class Check {
    private final String test;
    private int wrong;
    private int asked;

    Check(String test) {
        this.test = test;
    }

    void due(String call, long want, long got) {
        asked++;
        if (want != got) {
            wrong++;
            if (wrong <= 40) {
                String told = call.length() > 400 ? ".." + call.substring(call.length() - 400) : call;
                System.out.println(test + ": " + told + " answered " + got + ", due is " + want);
            }
        }
    }

    void due(String call, boolean want, boolean got) {
        due(call, want ? 1 : 0, got ? 1 : 0);
    }

    void end() {
        System.out.println(test + ": " + asked + " answers, " + wrong + " wrong");
        if (wrong != 0 || asked == 0) {
            System.exit(1);
        }
    }

    static byte[] bytes(String text) {
        return text.getBytes(StandardCharsets.ISO_8859_1);
    }

    static byte[] bytes(int... values) {
        byte[] bytes = new byte[values.length];
        for (int i = 0; i < values.length; i++) {
            bytes[i] = (byte) values[i];
        }
        return bytes;
    }

    /** Puts just these bytes on an empty tape. */
    static void put(TenthMan x, byte[] bytes) {
        int[] number = new int[5];
        for (int from = 0; from < bytes.length; from += 20) {
            for (int i = 0; i < 5; i++) {
                number[i] = 0;
                for (int k = 0; k < 4; k++) {
                    int at = from + 4 * i + k;
                    number[i] = number[i] << 8 | (at < bytes.length ? bytes[at] & 255 : 32);
                }
            }
            x.feed(number[0], number[1], number[2], number[3], number[4]);
        }
        x.end(bytes.length);
    }

    static int town(TenthMan x, String text) {
        put(x, bytes(text));
        return x.town();
    }

    /** A text without a fault, of so many statements. */
    void well(String text, int statements) {
        TenthMan x = new TenthMan();
        due("town of " + text, statements, town(x, text));
        due("fault of " + text, 0, x.fault(0));
        due("place of " + text, TenthMan.NONE, x.fault(1));
    }

    /** A text whose first fault is where the mark ^ stands (which is no part of it). */
    void bad(int fault, String marked) {
        int place = marked.indexOf('^');
        String text = marked.substring(0, place) + marked.substring(place + 1);
        TenthMan x = new TenthMan();
        due("town of " + marked, TenthMan.NONE, town(x, text));
        due("fault of " + marked, fault, x.fault(0));
        due("place of " + marked, place, x.fault(1));
    }

    static TenthMan told(String text) {
        TenthMan x = new TenthMan();
        if (town(x, text) == TenthMan.NONE) {
            throw new IllegalStateException("fault " + x.fault(0) + " at " + x.fault(1) + " of " + text);
        }
        return x;
    }
}
