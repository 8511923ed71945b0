import java.util.Map;

/** Promise 11: deep tests and bribes by lot, against TextModel. */
public final class SumModelTest {
    public static void main(String[] args) {
        Check c = new Check("SumModelTest");
        int free = 0;
        int dear = 0;
        int runs = args.length > 0 ? Integer.parseInt(args[0]) : 6000;
        int from = args.length > 1 ? Integer.parseInt(args[1]) : 0;
        for (int i = from; i < from + runs; i++) {
            Towns lot = new Towns(70000 + i);
            String test = lot.test(i % 7);
            String bribe = i % 2 == 0 ? lot.sum(i % 7) : "50+(" + lot.sum(i % 6) + ")/(1+" + lot.below(400) + ")";
            int tact = lot.below(100);
            int hour = lot.below(24);
            String text = "room a;person o at a to a coins 0 tact 9;person p at a to a coins 0 tact " + tact + ";hour " + hour
                    + ";man m lets " + test + " bribe " + bribe + " tires 1;";
            if (text.length() > 1600) {
                continue;
            }
            TextModel model = new TextModel(Check.bytes(text));
            Map<String, Integer> facts = Map.of("tact", tact, "hour", hour, "passed", 0, "who", 1, "day", 0);
            int want = -1;
            if (model.fault == 0) {
                int sum = TextModel.sum(model.men.get(0).bribe(), facts);
                want = TextModel.holds(model.men.get(0).test(), facts) ? 0 : Math.max(0, Math.min(99, sum));
            }
            free += want == 0 ? 1 : 0;
            dear += want > 0 && want < 99 ? 1 : 0;
            TenthMan x = new TenthMan();
            Check.town(x, text);
            c.due("lets in " + text, want, x.lets(0, 1));
        }
        if (runs >= 6000) {
            c.due("many for nothing", true, free > 500);
            c.due("many for coins", true, dear > 500);
        }
        // All that can wait waits: a lot, a joint of each kind and the first of two, six deep.
        String deep = "1+2*max(3,".repeat(6) + "1+2*4" + ")".repeat(6);
        TenthMan x = Check.told("room a;person p at a to a coins 0 tact 9;man m lets 1=2 or 1=1 and 1=" + deep
                + " bribe (" + deep.substring(10, deep.length() - 1) + ")/8 tires 1;");
        // 9, 19, 39, 79, 159, 319, (639): the bribe is five deep, 319 / 8 = 39.
        c.due("deep", 39, x.lets(0, 0));
        c.end();
    }
}
