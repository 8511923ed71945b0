import java.util.ArrayList;
import java.util.Arrays;
import java.util.HashMap;
import java.util.LinkedHashSet;
import java.util.List;
import java.util.Map;
import java.util.Set;

/**
 * The text of a town read another way than the class reads it, to compare with: the grammar as a
 * list of rules with an Earley recogniser, the other faults by a walk over the tokens ahead of
 * where the recogniser stops, and sums by splitting at the last joint.
 */
final class TextModel {
    static final Set<String> OWN = Set.of("room", "man", "lets", "bribe", "tires", "gate", "by", "person", "at", "to",
            "coins", "tact", "hour", "passed", "who", "day", "or", "and", "not", "all", "min", "max");

    private static final String[] RULES = {
        "TOWN =", "TOWN = TOWN STATEMENT ;",
        "STATEMENT = room NAME", "STATEMENT = man NAME lets TEST bribe SUM tires N",
        "STATEMENT = gate NAME NAME by NAME", "STATEMENT = person NAME at NAME to NAME coins N tact N",
        "STATEMENT = hour N",
        "TEST = BOTH", "TEST = TEST or BOTH", "BOTH = FACT", "BOTH = BOTH and FACT",
        "FACT = not FACT", "FACT = [ TEST ]", "FACT = all", "FACT = SUM < SUM", "FACT = SUM > SUM", "FACT = SUM = SUM",
        "SUM = PRODUCT", "SUM = SUM + PRODUCT", "SUM = SUM - PRODUCT",
        "PRODUCT = PART", "PRODUCT = PRODUCT * PART", "PRODUCT = PRODUCT / PART",
        "PART = N", "PART = tact", "PART = hour", "PART = passed", "PART = who", "PART = day",
        "PART = ( SUM )", "PART = min ( SUM , SUM )", "PART = max ( SUM , SUM )",
    };

    private static final List<String> HEADS = new ArrayList<>();
    private static final List<String[]> BODIES = new ArrayList<>();
    private static final Set<String> KINDS = new LinkedHashSet<>();

    static {
        for (String rule : RULES) {
            int equals = rule.indexOf('=');
            HEADS.add(rule.substring(0, equals).trim());
            String body = rule.substring(equals + 1).trim();
            BODIES.add(body.isEmpty() ? new String[0] : body.split(" "));
        }
        KINDS.addAll(HEADS);
    }

    record Token(String text, int start, boolean glued) {
        boolean word() {
            return Character.isLetter(text.charAt(0));
        }

        boolean number() {
            return Character.isDigit(text.charAt(0));
        }
    }

    record Man(String name, List<String> test, List<String> bribe, int tires) {
    }

    record Gate(int first, int second, int man) {
    }

    record Person(String name, int at, int to, int coins, int tact) {
    }

    final List<String> rooms = new ArrayList<>();
    final List<Man> men = new ArrayList<>();
    final List<Gate> gates = new ArrayList<>();
    final List<Person> people = new ArrayList<>();
    int hour;
    int statements;
    int fault;
    int place = -1;

    TextModel(byte[] bytes) {
        List<Token> tokens = tokens(bytes);
        int stop = recognise(tokens, bytes.length);
        walk(tokens.subList(0, stop), tokens);
    }

    private static boolean letter(int b) {
        return b >= 'a' && b <= 'z';
    }

    private static boolean digit(int b) {
        return b >= '0' && b <= '9';
    }

    private static List<Token> tokens(byte[] bytes) {
        List<Token> tokens = new ArrayList<>();
        int i = 0;
        while (i < bytes.length) {
            int b = bytes[i] & 255;
            int from = i;
            i++;
            if (b == 10 || b == 32) {
                continue;
            }
            boolean glued = false;
            if (letter(b)) {
                while (i < bytes.length && letter(bytes[i])) {
                    i++;
                }
                glued = from > 0 && digit(bytes[from - 1]);
            } else if (digit(b)) {
                while (i < bytes.length && digit(bytes[i])) {
                    i++;
                }
                glued = from > 0 && letter(bytes[from - 1]);
            }
            StringBuilder text = new StringBuilder();
            for (int k = from; k < i; k++) {
                text.append((char) (bytes[k] & 255));
            }
            // A letter of other alphabets is no word here.
            String shown = letter(b) || digit(b) || b < 128 && !Character.isLetterOrDigit(b) ? text.toString() : "?";
            tokens.add(new Token(shown, from, glued));
        }
        return tokens;
    }

    private record Item(int rule, int dot, int origin) {
    }

    /** How many tokens go on well; notes fault 1 when one does not, or the text ends too soon. */
    private int recognise(List<Token> tokens, int length) {
        List<Set<Item>> sets = new ArrayList<>();
        Set<Item> first = new LinkedHashSet<>();
        first.add(new Item(0, 0, 0));
        first.add(new Item(1, 0, 0));
        sets.add(first);
        for (int i = 0; ; i++) {
            List<Item> all = close(sets, i);
            if (i == tokens.size()) {
                boolean whole = all.stream().anyMatch(item -> item.origin == 0 && item.rule <= 1
                        && item.dot == BODIES.get(item.rule).length);
                if (!whole) {
                    fault = 1;
                    place = length;
                }
                return i;
            }
            Token token = tokens.get(i);
            Set<Item> next = new LinkedHashSet<>();
            Set<String> asked = new LinkedHashSet<>();
            for (Item item : all) {
                String[] body = BODIES.get(item.rule);
                if (item.dot < body.length && !KINDS.contains(body[item.dot])) {
                    asked.add(body[item.dot]);
                    if (fits(body[item.dot], token)) {
                        next.add(new Item(item.rule, item.dot + 1, item.origin));
                    }
                }
            }
            if (next.isEmpty() || token.glued) {
                fault = 1;
                place = token.start;
                if (!token.glued && asked.contains("NAME") && token.word() && token.text.length() > 6) {
                    place += 6;
                } else if (!token.glued && asked.contains("N") && token.number() && token.text.length() > 4) {
                    place += 4;
                }
                return i;
            }
            sets.add(next);
        }
    }

    private static boolean fits(String asked, Token token) {
        if (asked.equals("NAME")) {
            return token.word() && !OWN.contains(token.text) && token.text.length() <= 6;
        }
        if (asked.equals("N")) {
            return token.number() && token.text.length() <= 4;
        }
        return asked.equals(token.text);
    }

    private static List<Item> close(List<Set<Item>> sets, int i) {
        Set<Item> set = sets.get(i);
        List<Item> all = new ArrayList<>(set);
        for (int k = 0; k < all.size(); k++) {
            Item item = all.get(k);
            String[] body = BODIES.get(item.rule);
            if (item.dot < body.length) {
                for (int r = 0; r < BODIES.size(); r++) {
                    if (HEADS.get(r).equals(body[item.dot])) {
                        add(set, all, new Item(r, 0, i));
                        if (BODIES.get(r).length == 0) {
                            add(set, all, new Item(item.rule, item.dot + 1, item.origin));
                        }
                    }
                }
            } else {
                for (Item before : new ArrayList<>(sets.get(item.origin))) {
                    String[] his = BODIES.get(before.rule);
                    if (before.dot < his.length && his[before.dot].equals(HEADS.get(item.rule))) {
                        add(set, all, new Item(before.rule, before.dot + 1, before.origin));
                    }
                }
            }
        }
        return all;
    }

    private static void add(Set<Item> set, List<Item> all, Item item) {
        if (set.add(item)) {
            all.add(item);
        }
    }

    private void note(int which, int where) {
        if (fault == 0 || where < place || where == place && which == 5) {
            fault = which;
            place = where;
        }
    }

    /** Goes over the tokens that go on well, statement by statement; the one behind them may be too many. */
    private void walk(List<Token> good, List<Token> all) {
        List<Token> statement = new ArrayList<>();
        for (int i = 0; i < good.size(); i++) {
            if (good.get(i).text.equals(";")) {
                tell(statement);
                statements++;
                statement.clear();
            } else {
                statement.add(good.get(i));
            }
            if (statements == 80 && statement.isEmpty() && i + 1 < all.size()) {
                note(5, all.get(i + 1).start);
                return;
            }
            if (fault > 1) {
                return;
            }
        }
        tell(statement);
    }

    private final Map<String, String> sorts = new HashMap<>();

    private void tell(List<Token> s) {
        if (s.isEmpty()) {
            return;
        }
        String kind = s.get(0).text;
        int have = kind.equals("room") ? rooms.size() : kind.equals("man") ? men.size()
                : kind.equals("gate") ? gates.size() : kind.equals("person") ? people.size() : 0;
        int most = kind.equals("room") ? 10 : kind.equals("person") ? 6 : 12;
        if (have == most) {
            note(5, s.get(0).start);
            return;
        }
        if (s.size() > 1 && !kind.equals("gate") && !kind.equals("hour")) {
            if (sorts.containsKey(s.get(1).text)) {
                note(3, s.get(1).start);
                return;
            }
            sorts.put(s.get(1).text, kind);
        }
        switch (kind) {
            case "room" -> {
                if (s.size() > 1) {
                    rooms.add(s.get(1).text);
                }
            }
            case "man" -> tellMan(s);
            case "gate" -> tellGate(s);
            case "person" -> tellPerson(s);
            default -> {
                if (number(s, 1, 0, 23) >= 0) {
                    hour = Integer.parseInt(s.get(1).text);
                }
            }
        }
    }

    private int number(List<Token> s, int at, int least, int most) {
        if (at >= s.size()) {
            return -1;
        }
        int number = Integer.parseInt(s.get(at).text);
        if (number < least || number > most) {
            note(2, s.get(at).start);
            return -1;
        }
        return number;
    }

    private int named(List<Token> s, int at, String sort) {
        if (at >= s.size()) {
            return -1;
        }
        String name = s.get(at).text;
        if (!sort.equals(sorts.get(name))) {
            note(3, s.get(at).start);
            return -1;
        }
        if (sort.equals("room")) {
            return rooms.indexOf(name);
        }
        for (int i = 0; i < men.size(); i++) {
            if (men.get(i).name.equals(name)) {
                return i;
            }
        }
        return -1;
    }

    private void tellMan(List<Token> s) {
        List<String> open = new ArrayList<>();
        List<String> test = new ArrayList<>();
        List<String> bribe = new ArrayList<>();
        List<String> into = test;
        for (int i = 3; i < s.size(); i++) {
            String t = s.get(i).text;
            if (Set.of("and", "or", "]", "bribe").contains(t)) {
                while (!open.isEmpty() && open.get(open.size() - 1).equals("not")) {
                    open.remove(open.size() - 1);
                }
            }
            if (t.equals(")") || t.equals("]")) {
                open.remove(open.size() - 1);
            }
            if (Set.of("(", "[", "not").contains(t)) {
                open.add(t);
                if (open.size() == 7) {
                    note(4, s.get(i).start);
                    return;
                }
            }
            if (t.equals("bribe")) {
                into = bribe;
            } else if (t.equals("tires")) {
                int tires = number(s, i + 1, 1, 20);
                men.add(new Man(s.get(1).text, test, bribe, tires));
                return;
            } else {
                into.add(t);
            }
        }
    }

    private void tellGate(List<Token> s) {
        int first = named(s, 1, "room");
        if (fault > 1) {
            return;
        }
        int second = named(s, 2, "room");
        if (fault > 1) {
            return;
        }
        if (first >= 0 && first == second) {
            note(3, s.get(2).start);
            return;
        }
        int man = named(s, 4, "man");
        if (man < 0) {
            return;
        }
        for (Gate gate : gates) {
            if (gate.man == man) {
                note(3, s.get(4).start);
                return;
            }
        }
        gates.add(new Gate(first, second, man));
    }

    private void tellPerson(List<Token> s) {
        int at = named(s, 3, "room");
        if (fault > 1) {
            return;
        }
        int to = named(s, 5, "room");
        if (fault > 1) {
            return;
        }
        int coins = number(s, 7, 0, 999);
        if (fault > 1) {
            return;
        }
        int tact = number(s, 9, 0, 99);
        if (tact >= 0) {
            people.add(new Person(s.get(1).text, at, to, coins, tact));
        }
    }

    // ---- sums

    /** The last place at depth 0 of one of these, or -1. */
    private static int last(List<String> s, String... joints) {
        int depth = 0;
        int found = -1;
        for (int i = 0; i < s.size(); i++) {
            String t = s.get(i);
            if (t.equals("(") || t.equals("[")) {
                depth++;
            } else if (t.equals(")") || t.equals("]")) {
                depth--;
            } else if (depth == 0 && Arrays.asList(joints).contains(t)) {
                found = i;
            }
        }
        return found;
    }

    static boolean holds(List<String> s, Map<String, Integer> facts) {
        for (String joint : new String[] {"or", "and"}) {
            int at = last(s, joint);
            if (at >= 0) {
                boolean a = holds(s.subList(0, at), facts);
                boolean b = holds(s.subList(at + 1, s.size()), facts);
                return joint.equals("or") ? a || b : a && b;
            }
        }
        if (s.get(0).equals("not")) {
            return !holds(s.subList(1, s.size()), facts);
        }
        if (s.get(0).equals("[")) {
            return holds(s.subList(1, s.size() - 1), facts);
        }
        if (s.get(0).equals("all")) {
            return true;
        }
        int at = last(s, "<", ">", "=");
        int a = sum(s.subList(0, at), facts);
        int b = sum(s.subList(at + 1, s.size()), facts);
        return s.get(at).equals("<") ? a < b : s.get(at).equals(">") ? a > b : a == b;
    }

    static int sum(List<String> s, Map<String, Integer> facts) {
        int at = last(s, "+", "-");
        if (at < 0) {
            at = last(s, "*", "/");
        }
        if (at >= 0) {
            long a = sum(s.subList(0, at), facts);
            long b = sum(s.subList(at + 1, s.size()), facts);
            String joint = s.get(at);
            if (joint.equals("/")) {
                return b == 0 ? 0 : (int) Math.floor((double) a / (double) b);
            }
            long value = joint.equals("+") ? a + b : joint.equals("-") ? a - b : a * b;
            return (int) Math.min(1000000, Math.max(-1000000, value));
        }
        String head = s.get(0);
        if (head.equals("(")) {
            return sum(s.subList(1, s.size() - 1), facts);
        }
        if (head.equals("min") || head.equals("max")) {
            List<String> inside = s.subList(2, s.size() - 1);
            int comma = last(inside, ",");
            int a = sum(inside.subList(0, comma), facts);
            int b = sum(inside.subList(comma + 1, inside.size()), facts);
            return head.equals("min") ? Math.min(a, b) : Math.max(a, b);
        }
        return facts.containsKey(head) ? facts.get(head) : Integer.parseInt(head);
    }
}
