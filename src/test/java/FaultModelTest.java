/** Promises 4, 5: texts by lot, sound and spoilt, against TextModel. */
public final class FaultModelTest {
    public static void main(String[] args) {
        Check c = new Check("FaultModelTest");
        int[] faults = new int[6];
        int runs = args.length > 0 ? Integer.parseInt(args[0]) : 4000;
        int from = args.length > 1 ? Integer.parseInt(args[1]) : 0;
        for (int i = from; i < from + runs; i++) {
            Towns towns = new Towns(i);
            String text = i % 4 == 3 ? towns.jumble() : towns.text(12);
            if (i % 4 != 0) {
                text = towns.spoilt(text);
            }
            if (text.length() > 1600) {
                continue;
            }
            faults[compare(c, text)]++;
        }
        for (int fault = 0; fault < 6 && runs >= 4000; fault++) {
            c.due("fault " + fault + " came about", true, faults[fault] > 20);
        }
        c.end();
    }

    private static int compare(Check c, String text) {
        TextModel model = new TextModel(Check.bytes(text));
        TenthMan x = new TenthMan();
        Check.put(x, Check.bytes(text));
        c.due("town of " + text, model.fault == 0 ? model.statements : -1, x.town());
        c.due("fault(0) of " + text, model.fault, x.fault(0));
        c.due("fault(1) of " + text, model.place, x.fault(1));
        boolean sound = model.fault == 0;
        c.due("rooms", sound ? model.rooms.size() : 0, x.has(0));
        c.due("men", sound ? model.men.size() : 0, x.has(1));
        c.due("gates", sound ? model.gates.size() : 0, x.has(2));
        c.due("people", sound ? model.people.size() : 0, x.has(3));
        c.due("hour", sound ? model.hour : 0, x.has(4));
        return model.fault;
    }
}
