import java.util.ArrayDeque;
import java.util.ArrayList;
import java.util.Arrays;
import java.util.Deque;
import java.util.HashMap;
import java.util.List;
import java.util.Map;

/** What the document says, done by trying everything out; to compare TenthMan with. */
final class Model {
    private static final int NONE = -1;

    /** What changes. */
    private static final class Now {
        int day;
        int hour;
        int[] stands;
        int[] passed;
        int[] purse;
        int[] at;
        int[] to;
        int[] coins;
        boolean[][] friends;

        Now copy() {
            Now n = new Now();
            n.day = day;
            n.hour = hour;
            n.stands = stands.clone();
            n.passed = passed.clone();
            n.purse = purse.clone();
            n.at = at.clone();
            n.to = to.clone();
            n.coins = coins.clone();
            n.friends = new boolean[friends.length][];
            for (int i = 0; i < friends.length; i++) {
                n.friends[i] = friends[i].clone();
            }
            return n;
        }
    }

    private TextModel town = new TextModel(new byte[0]);
    private int fault;
    private int place = NONE;
    private Now now = begin(town);
    private final Deque<Now> undos = new ArrayDeque<>();
    private long seed = 1;
    private byte[] sights = new byte[0];
    private byte[] image = new byte[0];

    private static Now begin(TextModel town) {
        Now n = new Now();
        n.hour = town.hour;
        n.stands = town.gates.stream().mapToInt(TextModel.Gate::man).toArray();
        n.passed = new int[town.men.size()];
        n.purse = new int[town.men.size()];
        n.at = town.people.stream().mapToInt(TextModel.Person::at).toArray();
        n.to = town.people.stream().mapToInt(TextModel.Person::to).toArray();
        n.coins = town.people.stream().mapToInt(TextModel.Person::coins).toArray();
        n.friends = new boolean[town.people.size()][town.men.size()];
        return n;
    }

    int town(byte[] text) {
        TextModel read = new TextModel(text);
        fault = read.fault;
        place = read.place;
        if (fault != 0) {
            return NONE;
        }
        town = read;
        now = begin(town);
        undos.clear();
        sights = new byte[0];
        return town.statements;
    }

    int fault(int what) {
        return what == 0 ? fault : what == 1 ? place : NONE;
    }

    int has(int what) {
        return switch (what) {
            case 0 -> town.rooms.size();
            case 1 -> town.men.size();
            case 2 -> town.gates.size();
            case 3 -> town.people.size();
            case 4 -> now.hour;
            case 5 -> now.day;
            case 6 -> {
                int n = 0;
                for (int i = 0; i < town.men.size(); i++) {
                    n += fainted(i) ? 1 : 0;
                }
                yield n;
            }
            case 7 -> Arrays.stream(now.coins).sum();
            case 8 -> Arrays.stream(now.purse).sum();
            case 9 -> {
                int n = 0;
                for (boolean[] row : now.friends) {
                    for (boolean is : row) {
                        n += is ? 1 : 0;
                    }
                }
                yield n;
            }
            case 10 -> undos.size();
            default -> NONE;
        };
    }

    int letter(int kind, int which, int k) {
        if (k < 0 || k > 5 || which < 0) {
            return NONE;
        }
        String name = null;
        if (kind == 0 && which < town.rooms.size()) {
            name = town.rooms.get(which);
        } else if (kind == 1 && which < town.men.size()) {
            name = town.men.get(which).name();
        } else if (kind == 2 && which < town.people.size()) {
            name = town.people.get(which).name();
        }
        return name == null ? NONE : k < name.length() ? name.charAt(k) - 96 : 0;
    }

    int gate(int gate, int what) {
        if (!isGate(gate)) {
            return NONE;
        }
        return switch (what) {
            case 0 -> town.gates.get(gate).first();
            case 1 -> town.gates.get(gate).second();
            case 2 -> now.stands[gate];
            default -> NONE;
        };
    }

    int man(int man, int what) {
        if (!isMan(man)) {
            return NONE;
        }
        return switch (what) {
            case 0 -> {
                int gate = NONE;
                for (int g = 0; g < now.stands.length; g++) {
                    gate = now.stands[g] == man ? g : gate;
                }
                yield gate;
            }
            case 1 -> town.men.get(man).tires();
            case 2 -> now.passed[man];
            case 3 -> fainted(man) ? 1 : 0;
            case 4 -> now.purse[man];
            case 5 -> {
                int n = 0;
                for (boolean[] row : now.friends) {
                    n += row[man] ? 1 : 0;
                }
                yield n;
            }
            default -> NONE;
        };
    }

    int person(int person, int what) {
        if (!isPerson(person)) {
            return NONE;
        }
        return switch (what) {
            case 0 -> now.at[person];
            case 1 -> now.to[person];
            case 2 -> now.coins[person];
            case 3 -> town.people.get(person).tact();
            case 4 -> friendBits(person);
            default -> NONE;
        };
    }

    private int friendBits(int person) {
        int bits = 0;
        for (int m = 0; m < now.friends[person].length; m++) {
            bits += now.friends[person][m] ? 1 << m : 0;
        }
        return bits;
    }

    private boolean isGate(int g) {
        return g >= 0 && g < town.gates.size();
    }

    private boolean isMan(int m) {
        return m >= 0 && m < town.men.size();
    }

    private boolean isPerson(int p) {
        return p >= 0 && p < town.people.size();
    }

    private boolean isRoom(int r) {
        return r >= 0 && r < town.rooms.size();
    }

    private boolean fainted(int man) {
        return now.passed[man] >= town.men.get(man).tires();
    }

    private int asks(int man, int tact, int hour, int passed, int who, int day) {
        Map<String, Integer> facts = new HashMap<>();
        facts.put("tact", tact);
        facts.put("hour", hour);
        facts.put("passed", passed);
        facts.put("who", who);
        facts.put("day", day);
        if (TextModel.holds(town.men.get(man).test(), facts)) {
            return 0;
        }
        return Math.min(99, Math.max(0, TextModel.sum(town.men.get(man).bribe(), facts)));
    }

    private int price(int man, int person, int tact) {
        if (fainted(man) || now.friends[person][man]) {
            return 0;
        }
        return asks(man, tact, now.hour, now.passed[man], person, now.day);
    }

    int lets(int man, int person) {
        return isMan(man) && isPerson(person) ? price(man, person, town.people.get(person).tact()) : NONE;
    }

    // ---- ways: all simple ways are tried

    private record Way(int coins, List<Integer> rooms, List<Integer> gates) {
        boolean ahead(Way o) {
            if (o == null) {
                return true;
            }
            if (coins != o.coins) {
                return coins < o.coins;
            }
            if (gates.size() != o.gates.size()) {
                return gates.size() < o.gates.size();
            }
            for (int i = 0; i < rooms.size(); i++) {
                if (!rooms.get(i).equals(o.rooms.get(i))) {
                    return rooms.get(i) < o.rooms.get(i);
                }
            }
            for (int i = 0; i < gates.size(); i++) {
                if (!gates.get(i).equals(o.gates.get(i))) {
                    return gates.get(i) < o.gates.get(i);
                }
            }
            return false;
        }
    }

    private Way best;

    /** prices by gate; NONE is shut. */
    private Way bestWay(int from, int goal, int[] prices) {
        best = null;
        search(from, goal, prices, 0, new ArrayList<>(), new ArrayList<>(), 1 << from);
        return best;
    }

    private void search(int here, int goal, int[] prices, int coins, List<Integer> rooms, List<Integer> gates, int been) {
        if (here == goal) {
            Way way = new Way(coins, new ArrayList<>(rooms), new ArrayList<>(gates));
            if (way.ahead(best)) {
                best = way;
            }
            return;
        }
        for (int g = 0; g < prices.length; g++) {
            int there = across(g, here);
            if (there != NONE && prices[g] != NONE && (been >> there & 1) == 0) {
                rooms.add(there);
                gates.add(g);
                search(there, goal, prices, coins + prices[g], rooms, gates, been | 1 << there);
                rooms.remove(rooms.size() - 1);
                gates.remove(gates.size() - 1);
            }
        }
    }

    private int across(int g, int room) {
        TextModel.Gate gate = town.gates.get(g);
        return gate.first() == room ? gate.second() : gate.second() == room ? gate.first() : NONE;
    }

    private int[] prices(int person, int tact) {
        int[] prices = new int[town.gates.size()];
        for (int g = 0; g < prices.length; g++) {
            prices[g] = price(now.stands[g], person, tact);
        }
        return prices;
    }

    private int[] prices(int person) {
        return prices(person, town.people.get(person).tact());
    }

    int way(int person, int k) {
        if (!isPerson(person)) {
            return NONE;
        }
        Way way = bestWay(now.at[person], now.to[person], prices(person));
        if (way == null) {
            return NONE;
        }
        if (k == NONE) {
            return way.coins;
        }
        if (k == 20) {
            return way.gates.size();
        }
        return k >= 0 && k < way.gates.size() ? way.gates.get(k) : NONE;
    }

    private int free(int from, int[] prices) {
        int reached = 1 << from;
        while (true) {
            int more = reached;
            for (int g = 0; g < prices.length; g++) {
                for (int room = 0; room < town.rooms.size(); room++) {
                    if (prices[g] == 0 && (more >> room & 1) == 1 && across(g, room) != NONE) {
                        more |= 1 << across(g, room);
                    }
                }
            }
            if (more == reached) {
                return reached;
            }
            reached = more;
        }
    }

    int reached(int person) {
        return isPerson(person) ? free(now.at[person], prices(person)) : NONE;
    }

    // ---- acts

    private void act() {
        undos.addLast(now.copy());
        if (undos.size() > 20) {
            undos.removeFirst();
        }
    }

    int go(int person) {
        if (!isPerson(person)) {
            return NONE;
        }
        int[] prices = prices(person);
        Way way = bestWay(now.at[person], now.to[person], prices);
        if (way == null || way.coins > now.coins[person]) {
            return NONE;
        }
        act();
        for (int g : way.gates) {
            int man = now.stands[g];
            now.coins[person] -= prices[g];
            now.purse[man] += prices[g];
            if (now.passed[man] < 200) {
                now.passed[man]++;
            }
        }
        int from = now.at[person];
        now.at[person] = now.to[person];
        now.to[person] = from;
        return way.coins;
    }

    int hour(int hour) {
        if (hour < 0 || hour > 23) {
            return NONE;
        }
        act();
        int was = now.hour;
        now.hour = hour;
        return was;
    }

    int night() {
        if (now.day == 999) {
            return NONE;
        }
        act();
        now.hour = 0;
        Arrays.fill(now.passed, 0);
        return ++now.day;
    }

    boolean friend(int person, int man, boolean is) {
        if (!isPerson(person) || !isMan(man) || now.friends[person][man] == is) {
            return false;
        }
        act();
        now.friends[person][man] = is;
        return true;
    }

    private static void change(int[] row, int a, int b) {
        int kept = row[a];
        row[a] = row[b];
        row[b] = kept;
    }

    boolean swap(int first, int second) {
        if (!isGate(first) || !isGate(second) || first == second) {
            return false;
        }
        act();
        change(now.stands, first, second);
        return true;
    }

    int lots() {
        if (town.gates.isEmpty()) {
            return NONE;
        }
        act();
        for (int i = town.gates.size() - 1; i >= 1; i--) {
            seed = (1103515245L * seed + 12345) % (1L << 31);
            change(now.stands, i, (int) (seed / 64 % (i + 1)));
        }
        return now.stands[0];
    }

    boolean undo() {
        if (undos.isEmpty()) {
            return false;
        }
        now = undos.removeLast();
        return true;
    }

    boolean seed(int value) {
        if (value < 0) {
            return false;
        }
        seed = value;
        return true;
    }

    // ---- burglars, tact, standings

    int burglar(int person, int room, int what) {
        if (!isPerson(person) || !isRoom(room) || what < 0 || what > 1) {
            return NONE;
        }
        int[] prices = prices(person);
        int bestBits = NONE;
        for (int bits = 0; bits < 1 << town.men.size(); bits++) {
            if (bestBits != NONE && Integer.bitCount(bits) >= Integer.bitCount(bestBits)) {
                continue;
            }
            int[] by = prices.clone();
            for (int g = 0; g < by.length; g++) {
                by[g] = (bits >> now.stands[g] & 1) == 1 ? 0 : by[g];
            }
            if ((free(now.at[person], by) >> room & 1) == 1) {
                bestBits = bits;
            }
        }
        return bestBits == NONE ? NONE : what == 0 ? Integer.bitCount(bestBits) : bestBits;
    }

    int tact(int person) {
        if (!isPerson(person)) {
            return NONE;
        }
        for (int tact = 0; tact < 100; tact++) {
            if ((free(now.at[person], prices(person, tact)) >> now.to[person] & 1) == 1) {
                return tact;
            }
        }
        return NONE;
    }

    private boolean pays(int person, int[] prices) {
        Way way = bestWay(now.at[person], now.to[person], prices);
        return way != null && way.coins <= now.coins[person];
    }

    int out(int person) {
        if (!isPerson(person) || !pays(person, prices(person))) {
            return NONE;
        }
        int bits = 0;
        for (int g = 0; g < town.gates.size(); g++) {
            int[] prices = prices(person);
            prices[g] = NONE;
            bits |= pays(person, prices) ? 0 : 1 << g;
        }
        return bits;
    }

    /** People times 100000, less their coins. */
    private long worth(int[] men, int[][] prices) {
        long worth = 0;
        for (int p = 0; p < town.people.size(); p++) {
            int[] by = new int[men.length];
            for (int g = 0; g < men.length; g++) {
                by[g] = prices[men[g]][p];
            }
            Way way = bestWay(now.at[p], now.to[p], by);
            if (way != null && way.coins <= now.coins[p]) {
                worth += 100000 - way.coins;
            }
        }
        return worth;
    }

    private int[][] allPrices() {
        int[][] prices = new int[town.men.size()][town.people.size()];
        for (int m = 0; m < prices.length; m++) {
            for (int p = 0; p < prices[m].length; p++) {
                prices[m][p] = price(m, p, town.people.get(p).tact());
            }
        }
        return prices;
    }

    private long bestWorth;
    private int[] bestMen;

    private void orders(int[] men, int from, int[][] prices) {
        if (from == men.length) {
            long worth = worth(men, prices);
            if (bestMen == null || worth > bestWorth || worth == bestWorth && Arrays.compare(men, bestMen) < 0) {
                bestWorth = worth;
                bestMen = men.clone();
            }
            return;
        }
        for (int i = from; i < men.length; i++) {
            change(men, from, i);
            orders(men, from + 1, prices);
            change(men, from, i);
        }
    }

    private static int told(int k, int[] men, long worth) {
        long people = (worth + 99999) / 100000;
        if (k == NONE) {
            return (int) people;
        }
        if (k == 20) {
            return (int) (people * 100000 - worth);
        }
        return k >= 0 && k < men.length ? men[k] : NONE;
    }

    int stand(int k) {
        if (town.gates.size() > 6) {
            return NONE;
        }
        bestMen = null;
        orders(now.stands.clone(), 0, allPrices());
        return told(k, bestMen, bestWorth);
    }

    int exchange(int k) {
        int[] men = now.stands.clone();
        int[][] prices = allPrices();
        int exchanges = 0;
        while (true) {
            long worth = worth(men, prices);
            int[] next = null;
            for (int i = 0; i < men.length; i++) {
                for (int j = i + 1; j < men.length; j++) {
                    int[] other = men.clone();
                    change(other, i, j);
                    long his = worth(other, prices);
                    if (his > worth) {
                        worth = his;
                        next = other;
                    }
                }
            }
            if (next == null) {
                return k == 21 ? exchanges : told(k, men, worth);
            }
            men = next;
            exchanges++;
        }
    }

    // ---- what was seen, a fire

    int see(byte[] tape) {
        if (tape.length == 0 || tape.length > 60 || tape.length % 3 != 0) {
            return NONE;
        }
        for (int i = 0; i < tape.length; i += 3) {
            if ((tape[i] & 255) > 23 || !isPerson(tape[i + 1] & 255) || (tape[i + 2] & 255) > 1) {
                return NONE;
            }
        }
        sights = tape.clone();
        return tape.length / 3;
    }

    int seen() {
        if (sights.length == 0) {
            return NONE;
        }
        int bits = 0;
        for (int m = 0; m < town.men.size(); m++) {
            boolean can = true;
            for (int i = 0; i < sights.length; i += 3) {
                int who = sights[i + 1];
                boolean free = asks(m, town.people.get(who).tact(), sights[i], 0, who, now.day) == 0;
                can &= free == (sights[i + 2] == 1);
            }
            bits |= can ? 1 << m : 0;
        }
        return bits;
    }

    int fire(int room) {
        if (!isRoom(room)) {
            return NONE;
        }
        int[] ones = new int[town.gates.size()];
        Arrays.fill(ones, 1);
        int[] at = now.at.clone();
        for (int minute = 0; ; minute++) {
            boolean[] used = new boolean[ones.length];
            boolean waits = false;
            for (int p = 0; p < at.length; p++) {
                Way way = bestWay(at[p], room, ones);
                if (way == null || way.coins == 0) {
                    continue;
                }
                waits = true;
                for (int g = 0; g < ones.length; g++) {
                    int there = across(g, at[p]);
                    if (there != NONE && !used[g] && bestWay(there, room, ones).coins < way.coins) {
                        used[g] = true;
                        at[p] = there;
                        break;
                    }
                }
            }
            if (!waits) {
                return minute;
            }
        }
    }

    // ---- images

    int image() {
        List<Integer> list = new ArrayList<>(List.of(now.day / 256, now.day % 256, now.hour));
        for (int man : now.stands) {
            list.add(man);
        }
        for (int m = 0; m < town.men.size(); m++) {
            list.addAll(List.of(now.passed[m], now.purse[m] / 256, now.purse[m] % 256));
        }
        for (int p = 0; p < town.people.size(); p++) {
            int bits = friendBits(p);
            list.addAll(List.of(now.at[p], now.to[p], now.coins[p] / 256, now.coins[p] % 256, bits / 256, bits % 256));
        }
        list.add(sum(list));
        image = new byte[list.size()];
        for (int i = 0; i < image.length; i++) {
            image[i] = (byte) (int) list.get(i);
        }
        return image.length;
    }

    static int sum(List<Integer> bytes) {
        int c = 157;
        for (int b : bytes) {
            c = (3 * c + b) % 247;
        }
        return c;
    }

    int octet(int k) {
        return k >= 0 && k < image.length ? image[k] & 255 : NONE;
    }

    byte[] imageBytes() {
        return image.clone();
    }

    boolean on(byte[] tape) {
        int wanted = 4 + town.gates.size() + 3 * town.men.size() + 6 * town.people.size();
        if (tape.length != wanted) {
            return false;
        }
        List<Integer> list = new ArrayList<>();
        for (int i = 0; i < wanted - 1; i++) {
            list.add(tape[i] & 255);
        }
        if (sum(list) != (tape[wanted - 1] & 255)) {
            return false;
        }
        Now n = now.copy();
        Deque<Integer> left = new ArrayDeque<>(list);
        n.day = two(left);
        n.hour = left.removeFirst();
        boolean can = n.day <= 999 && n.hour <= 23;
        for (int g = 0; g < n.stands.length; g++) {
            n.stands[g] = left.removeFirst();
        }
        int[] there = n.stands.clone();
        int[] due = now.stands.clone();
        Arrays.sort(there);
        Arrays.sort(due);
        can &= Arrays.equals(there, due);
        int all = 0;
        for (int m = 0; m < n.passed.length; m++) {
            n.passed[m] = left.removeFirst();
            n.purse[m] = two(left);
            can &= n.passed[m] <= 200;
            all += n.purse[m];
        }
        for (int p = 0; p < n.at.length; p++) {
            n.at[p] = left.removeFirst();
            n.to[p] = left.removeFirst();
            n.coins[p] = two(left);
            int bits = two(left);
            can &= isRoom(n.at[p]) && isRoom(n.to[p]) && bits < 1 << town.men.size();
            for (int m = 0; m < n.friends[p].length; m++) {
                n.friends[p][m] = (bits >> m & 1) == 1;
            }
            all += n.coins[p];
        }
        if (!can || all != town.people.stream().mapToInt(TextModel.Person::coins).sum()) {
            return false;
        }
        now = n;
        undos.clear();
        return true;
    }

    private static int two(Deque<Integer> left) {
        int high = left.removeFirst();
        return 256 * high + left.removeFirst();
    }
}
