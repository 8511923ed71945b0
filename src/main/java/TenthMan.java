import java.util.Arrays;

/**
 * A town of rooms whose openings are men. The face stands first; the classes
 * below hold the tape, the told town, its small language, ways, standings,
 * what can be undone and images.
 */
public final class TenthMan {
    public static final int NONE = -1;

    private static final int ROOMS_MOST = 10;
    private static final int MEN_MOST = 12;
    private static final int GATES_MOST = 12;
    private static final int PEOPLE_MOST = 6;
    private static final int STATEMENTS_MOST = 80;
    private static final int TAPE_MOST = 1600;
    private static final int FED_AT_ONCE = 20;
    private static final int UNDOS_MOST = 20;
    private static final int PASSED_MOST = 200;
    private static final int DAY_MOST = 999;
    private static final int HOUR_MOST = 23;
    private static final int TACT_MOST = 99;
    private static final int COINS_MOST = 999;
    private static final int TIRES_MOST = 20;
    private static final int NUMBER_MOST = 9999;
    private static final int BRIBE_MOST = 99;
    private static final int NAME_MOST = 6;
    private static final int DIGITS_MOST = 4;
    private static final int OPEN_MOST = 6;
    private static final int SIGHTS_MOST = 20;
    private static final int SIGHT_BYTES = 3;
    private static final int STAND_GATES_MOST = 6;
    private static final int ASK_SUM = 20;
    private static final int ASK_EXCHANGES = 21;
    /** More than a fire can last: 6 people of at most 9 steps, one step a minute at least. */
    private static final int MINUTES_BOUND = 1000;
    /** More than 6 people and 6 * 999 coins can be bettered one by one. */
    private static final int EXCHANGES_BOUND = 100000;
    /** 6 gates have 720 orders. */
    private static final int ORDERS_BOUND = 720;

    /** The kinds of what a town counts, in the order of has(). */
    private static final int ROOM = 0;
    private static final int MAN = 1;
    private static final int GATE = 2;
    private static final int PERSON = 3;
    private static final int[] MOST = {ROOMS_MOST, MEN_MOST, GATES_MOST, PEOPLE_MOST};
    /** The kinds that have names, in the order of letter(). */
    private static final int[] NAMED = {ROOM, MAN, PERSON};

    /** Where the things that change stand in a row of them: one row can be kept and copied whole. */
    private static final int DAY = 0;
    private static final int HOUR = 1;
    private static final int STANDS = 2;
    private static final int PASSED = STANDS + GATES_MOST;
    private static final int PURSE = PASSED + MEN_MOST;
    private static final int PLACE = PURSE + MEN_MOST;
    private static final int WISH = PLACE + PEOPLE_MOST;
    private static final int COINS = WISH + PEOPLE_MOST;
    private static final int FRIENDS = COINS + PEOPLE_MOST;
    private static final int ROW = FRIENDS + PEOPLE_MOST;

    private final Reader reader = new Reader();
    private final Tape tape = reader.tape;
    private final Judge judge = new Judge();
    private final Ways ways = new Ways();
    private final Standings standings = new Standings();
    private final History history = new History();
    private final Image image = new Image();
    private final int[] now = new int[ROW];
    private final int[] trial = new int[ROW];
    private final int[] sights = new int[SIGHTS_MOST * SIGHT_BYTES];
    private int sightCount;
    private long lotSeed = 1;
    private Town told = new Town();

    public TenthMan() {
    }

    public int feed(int a, int b, int c, int d, int e) {
        if (tape.length + FED_AT_ONCE > TAPE_MOST) {
            return NONE;
        }
        tape.putNumber(a);
        tape.putNumber(b);
        tape.putNumber(c);
        tape.putNumber(d);
        tape.putNumber(e);
        return tape.length;
    }

    public boolean end(int n) {
        if (n < 0 || n > tape.length) {
            return false;
        }
        tape.length = n;
        return true;
    }

    public int town() {
        boolean faultless = reader.read();
        tape.length = 0;
        if (!faultless) {
            return NONE;
        }
        Town old = told;
        told = reader.town;
        reader.town = old;
        told.begin(now);
        sightCount = 0;
        history.clear();
        standings.forget();
        return told.statements;
    }

    public int fault(int what) {
        if (what == 0) {
            return reader.fault;
        }
        return what == 1 ? reader.faultPlace : NONE;
    }

    public int has(int what) {
        switch (what) {
            case ROOM:
            case MAN:
            case GATE:
            case PERSON:
                return told.counts[what];
            case 4:
                return now[HOUR];
            case 5:
                return now[DAY];
            case 6:
                return faintedMen();
            case 7:
                return sumOf(now, COINS, told.counts[PERSON]);
            case 8:
                return sumOf(now, PURSE, told.counts[MAN]);
            case 9:
                return friendships();
            case 10:
                return history.count;
            default:
                return NONE;
        }
    }

    public int letter(int kind, int which, int k) {
        if (!within(kind, NAMED.length) || !within(k, NAME_MOST) || !within(which, told.counts[NAMED[kind]])) {
            return NONE;
        }
        return told.names[NAMED[kind]][which] >> (Town.LETTER_BITS * k) & Town.LETTER_MASK;
    }

    public int gate(int gate, int what) {
        if (!isGate(gate)) {
            return NONE;
        }
        switch (what) {
            case 0:
                return told.gateFirst[gate];
            case 1:
                return told.gateSecond[gate];
            case 2:
                return now[STANDS + gate];
            default:
                return NONE;
        }
    }

    public int man(int man, int what) {
        if (!isMan(man)) {
            return NONE;
        }
        switch (what) {
            case 0:
                return gateOf(man);
            case 1:
                return told.tires[man];
            case 2:
                return now[PASSED + man];
            case 3:
                return told.hasFainted(now, man) ? 1 : 0;
            case 4:
                return now[PURSE + man];
            case 5:
                return friendsOf(man);
            default:
                return NONE;
        }
    }

    public int person(int person, int what) {
        if (!isPerson(person)) {
            return NONE;
        }
        switch (what) {
            case 0:
                return now[PLACE + person];
            case 1:
                return now[WISH + person];
            case 2:
                return now[COINS + person];
            case 3:
                return told.personTact[person];
            case 4:
                return now[FRIENDS + person];
            default:
                return NONE;
        }
    }

    // ---- ways

    public int lets(int man, int person) {
        if (!isMan(man) || !isPerson(person)) {
            return NONE;
        }
        return judge.price(told, now, man, person, told.personTact[person]);
    }

    public int way(int person, int k) {
        if (!isPerson(person)) {
            return NONE;
        }
        int costs = findWay(person);
        if (costs == NONE || k == NONE) {
            return costs;
        }
        if (k == ASK_SUM) {
            return ways.steps;
        }
        return within(k, ways.steps) ? ways.route[k] : NONE;
    }

    public int reached(int person) {
        if (!isPerson(person)) {
            return NONE;
        }
        weighPrices(person, told.personTact[person]);
        ways.measure(told, now[PLACE + person]);
        int bits = 0;
        for (int room = 0; room < told.counts[ROOM]; room++) {
            if (ways.far[room] == 0) {
                bits |= 1 << room;
            }
        }
        return bits;
    }

    // ---- acts

    public int go(int person) {
        if (!isPerson(person)) {
            return NONE;
        }
        int costs = findWay(person);
        if (costs == NONE || costs > now[COINS + person]) {
            return NONE;
        }
        beginAct();
        for (int i = 0; i < ways.steps; i++) {
            passGate(person, ways.route[i]);
        }
        int from = now[PLACE + person];
        now[PLACE + person] = now[WISH + person];
        now[WISH + person] = from;
        return costs;
    }

    public int hour(int hour) {
        if (hour < 0 || hour > HOUR_MOST) {
            return NONE;
        }
        beginAct();
        int old = now[HOUR];
        now[HOUR] = hour;
        return old;
    }

    public int night() {
        if (now[DAY] >= DAY_MOST) {
            return NONE;
        }
        beginAct();
        now[DAY]++;
        now[HOUR] = 0;
        for (int man = 0; man < MEN_MOST; man++) {
            now[PASSED + man] = 0;
        }
        return now[DAY];
    }

    public boolean friend(int person, int man, boolean is) {
        if (!isPerson(person) || !isMan(man) || Town.areFriends(now, person, man) == is) {
            return false;
        }
        beginAct();
        now[FRIENDS + person] ^= 1 << man;
        return true;
    }

    public boolean swap(int first, int second) {
        if (!isGate(first) || !isGate(second) || first == second) {
            return false;
        }
        beginAct();
        exchangeIn(now, STANDS + first, STANDS + second);
        return true;
    }

    public int lots() {
        int gates = told.counts[GATE];
        if (gates == 0) {
            return NONE;
        }
        beginAct();
        for (int i = gates - 1; i > 0; i--) {
            exchangeIn(now, STANDS + i, STANDS + draw(i + 1));
        }
        return now[STANDS];
    }

    public boolean undo() {
        if (!history.bringBack(now)) {
            return false;
        }
        standings.forget();
        return true;
    }

    public boolean seed(int seed) {
        if (seed < 0) {
            return false;
        }
        lotSeed = seed;
        return true;
    }

    // ---- burglars, tact, standings

    public int burglar(int person, int room, int what) {
        if (!isPerson(person) || !within(room, told.counts[ROOM]) || !within(what, 2)) {
            return NONE;
        }
        weighPrices(person, told.personTact[person]);
        // Men of one way are unlike, so adding their bits never carries into the count above them.
        for (int gate = 0; gate < told.counts[GATE]; gate++) {
            ways.weight[gate] = ways.weight[gate] == 0 ? 0 : (1 << MEN_MOST) + (1 << now[STANDS + gate]);
        }
        ways.measure(told, now[PLACE + person]);
        int far = ways.far[room];
        if (far >= Ways.NEVER) {
            return NONE;
        }
        return what == 0 ? far >> MEN_MOST : far & (1 << MEN_MOST) - 1;
    }

    public int tact(int person) {
        if (!isPerson(person)) {
            return NONE;
        }
        for (int tact = 0; tact <= TACT_MOST; tact++) {
            weighPrices(person, tact);
            ways.measure(told, now[PLACE + person]);
            if (ways.far[now[WISH + person]] == 0) {
                return tact;
            }
        }
        return NONE;
    }

    public int out(int person) {
        if (!isPerson(person)) {
            return NONE;
        }
        weighPrices(person, told.personTact[person]);
        if (!canPay(person)) {
            return NONE;
        }
        int bits = 0;
        for (int gate = 0; gate < told.counts[GATE]; gate++) {
            int weight = ways.weight[gate];
            ways.weight[gate] = Ways.SHUT;
            if (!canPay(person)) {
                bits |= 1 << gate;
            }
            ways.weight[gate] = weight;
        }
        return bits;
    }

    public int stand(int k) {
        if (told.counts[GATE] > STAND_GATES_MOST || k == ASK_EXCHANGES) {
            return NONE;
        }
        if (!standings.stood.known) {
            judge.priceAll(told, now, standings.prices);
            standings.tryOrders(told, now, ways);
        }
        return standings.stood.tell(k, told.counts[GATE]);
    }

    public int exchange(int k) {
        if (!standings.exchanged.known) {
            judge.priceAll(told, now, standings.prices);
            standings.tryExchanges(told, now, ways);
        }
        return standings.exchanged.tell(k, told.counts[GATE]);
    }

    // ---- what was seen, a fire

    public int see() {
        int length = tape.length;
        tape.length = 0;
        if (length < SIGHT_BYTES || length > sights.length || length % SIGHT_BYTES != 0) {
            return NONE;
        }
        for (int i = 0; i < length; i += SIGHT_BYTES) {
            if (tape.bytes[i] > HOUR_MOST || !isPerson(tape.bytes[i + 1]) || tape.bytes[i + 2] > 1) {
                return NONE;
            }
        }
        System.arraycopy(tape.bytes, 0, sights, 0, length);
        sightCount = length / SIGHT_BYTES;
        return sightCount;
    }

    public int seen() {
        if (sightCount == 0) {
            return NONE;
        }
        int bits = 0;
        for (int man = 0; man < told.counts[MAN]; man++) {
            if (fitsSights(man)) {
                bits |= 1 << man;
            }
        }
        return bits;
    }

    public int fire(int room) {
        if (!within(room, told.counts[ROOM])) {
            return NONE;
        }
        Arrays.fill(ways.weight, 1);
        ways.measure(told, room);
        System.arraycopy(now, 0, trial, 0, ROW);
        for (int minute = 0; minute < MINUTES_BOUND; minute++) {
            if (!fleeOneMinute()) {
                return minute;
            }
        }
        return NONE;
    }

    // ---- images

    public int image() {
        image.write(told, now);
        return image.length;
    }

    public int octet(int k) {
        return within(k, image.length) ? image.bytes[k] : NONE;
    }

    public boolean on() {
        boolean fits = Image.isOf(told, tape);
        if (fits) {
            Image.read(told, tape, trial);
            fits = Image.canBe(told, trial);
        }
        tape.length = 0;
        if (!fits) {
            return false;
        }
        System.arraycopy(trial, 0, now, 0, ROW);
        history.clear();
        standings.forget();
        return true;
    }

    // ---- helpers of the face

    private static boolean within(int index, int count) {
        return index >= 0 && index < count;
    }

    private boolean isGate(int gate) {
        return within(gate, told.counts[GATE]);
    }

    private boolean isMan(int man) {
        return within(man, told.counts[MAN]);
    }

    private boolean isPerson(int person) {
        return within(person, told.counts[PERSON]);
    }

    private static int sumOf(int[] row, int from, int count) {
        int sum = 0;
        for (int i = 0; i < count; i++) {
            sum += row[from + i];
        }
        return sum;
    }

    private static void exchangeIn(int[] row, int first, int second) {
        int kept = row[first];
        row[first] = row[second];
        row[second] = kept;
    }

    /** Called ahead of every change that undo() takes back. */
    private void beginAct() {
        history.keep(now);
        standings.forget();
    }

    private int faintedMen() {
        int fainted = 0;
        for (int man = 0; man < told.counts[MAN]; man++) {
            fainted += told.hasFainted(now, man) ? 1 : 0;
        }
        return fainted;
    }

    private int friendships() {
        int friendships = 0;
        for (int person = 0; person < told.counts[PERSON]; person++) {
            friendships += Integer.bitCount(now[FRIENDS + person]);
        }
        return friendships;
    }

    private int friendsOf(int man) {
        int friends = 0;
        for (int person = 0; person < told.counts[PERSON]; person++) {
            friends += Town.areFriends(now, person, man) ? 1 : 0;
        }
        return friends;
    }

    private int gateOf(int man) {
        for (int gate = 0; gate < told.counts[GATE]; gate++) {
            if (now[STANDS + gate] == man) {
                return gate;
            }
        }
        return NONE;
    }

    /** Each gate weighs what its man takes of the person, had he such tact. */
    private void weighPrices(int person, int tact) {
        for (int gate = 0; gate < told.counts[GATE]; gate++) {
            ways.weight[gate] = judge.price(told, now, now[STANDS + gate], person, tact);
        }
    }

    /** The costs of a person's way, whose gates then stand in ways.route; NONE without a way. */
    private int findWay(int person) {
        weighPrices(person, told.personTact[person]);
        for (int gate = 0; gate < told.counts[GATE]; gate++) {
            ways.weight[gate] = ways.weight[gate] * Ways.STEP_ROOM + 1;
        }
        return ways.trace(told, now[PLACE + person], now[WISH + person]);
    }

    /** The price is still the weight by which the way was found: what he does on it counts for nothing. */
    private void passGate(int person, int gate) {
        int man = now[STANDS + gate];
        int price = ways.weight[gate] / Ways.STEP_ROOM;
        now[COINS + person] -= price;
        now[PURSE + man] += price;
        now[PASSED + man] = Math.min(now[PASSED + man] + 1, PASSED_MOST);
    }

    private boolean canPay(int person) {
        ways.measure(told, now[PLACE + person]);
        return ways.far[now[WISH + person]] <= now[COINS + person];
    }

    private int draw(int m) {
        lotSeed = (1103515245L * lotSeed + 12345L) & 0x7fffffffL;
        return m > 0 ? (int) (lotSeed / 64 % m) : 0;
    }

    private boolean fitsSights(int man) {
        for (int i = 0; i < sightCount * SIGHT_BYTES; i += SIGHT_BYTES) {
            boolean free = judge.priceFresh(told, man, sights[i + 1], sights[i], now[DAY]) == 0;
            if (free != (sights[i + 2] == 1)) {
                return false;
            }
        }
        return true;
    }

    /** Moves the people of the trial row nearer; false when nobody could move. */
    private boolean fleeOneMinute() {
        int used = 0;
        for (int person = 0; person < told.counts[PERSON]; person++) {
            int gate = ways.firstNearer(told, trial[PLACE + person], used);
            if (gate != NONE) {
                used |= 1 << gate;
                trial[PLACE + person] = told.across(gate, trial[PLACE + person]);
            }
        }
        return used != 0;
    }

    /** The bytes fed and not yet taken. */
    private static final class Tape {
        private final int[] bytes = new int[TAPE_MOST];
        private int length;

        void putNumber(int number) {
            for (int shift = 24; shift >= 0 && length < TAPE_MOST; shift -= 8) {
                bytes[length] = number >> shift & 255;
                length++;
            }
        }

        /** NONE where the tape has no such byte. */
        int byteAt(int place) {
            return place >= 0 && place < length ? bytes[place] : NONE;
        }
    }

    /** What a text told: all of it stays until another town is told. */
    private static final class Town {
        private static final int LETTER_BITS = 5;
        private static final int LETTER_MASK = 31;

        private int statements;
        private int firstHour;
        private final int[] counts = new int[MOST.length];
        /** By kind and number; five bits a letter, the first one lowest. */
        private final int[][] names = new int[MOST.length][MEN_MOST];
        private final int[] tires = new int[MEN_MOST];
        private final int[] gateFirst = new int[GATES_MOST];
        private final int[] gateSecond = new int[GATES_MOST];
        private final int[] gateMan = new int[GATES_MOST];
        private final int[] personPlace = new int[PEOPLE_MOST];
        private final int[] personWish = new int[PEOPLE_MOST];
        private final int[] personCoins = new int[PEOPLE_MOST];
        private final int[] personTact = new int[PEOPLE_MOST];
        /** Tests and bribes, one behind the other; a man's bribe begins where his test ends. */
        private final int[] code = new int[TAPE_MOST];
        private int codeLength;
        private final int[] testFrom = new int[MEN_MOST];
        private final int[] bribeFrom = new int[MEN_MOST];
        private final int[] bribeEnd = new int[MEN_MOST];

        void clear() {
            statements = 0;
            firstHour = 0;
            codeLength = 0;
            Arrays.fill(counts, 0);
        }

        void emit(int op) {
            if (codeLength < code.length) {
                code[codeLength] = op;
                codeLength++;
            }
        }

        /** The number of a name among those of a kind, or NONE. */
        int numberOf(int kind, int name) {
            for (int i = 0; i < counts[kind]; i++) {
                if (names[kind][i] == name) {
                    return i;
                }
            }
            return NONE;
        }

        boolean knows(int name) {
            for (int kind = 0; kind < counts.length; kind++) {
                if (kind != GATE && numberOf(kind, name) != NONE) {
                    return true;
                }
            }
            return false;
        }

        /** The men told at gates, as bits. */
        int standingBits() {
            int bits = 0;
            for (int gate = 0; gate < counts[GATE]; gate++) {
                bits |= 1 << gateMan[gate];
            }
            return bits;
        }

        void begin(int[] row) {
            Arrays.fill(row, 0);
            row[HOUR] = firstHour;
            System.arraycopy(gateMan, 0, row, STANDS, counts[GATE]);
            System.arraycopy(personPlace, 0, row, PLACE, counts[PERSON]);
            System.arraycopy(personWish, 0, row, WISH, counts[PERSON]);
            System.arraycopy(personCoins, 0, row, COINS, counts[PERSON]);
        }

        boolean hasFainted(int[] row, int man) {
            return row[PASSED + man] >= tires[man];
        }

        static boolean areFriends(int[] row, int person, int man) {
            return (row[FRIENDS + person] >> man & 1) == 1;
        }

        /** The room on the other side of a gate; NONE when the gate is not at this room. */
        int across(int gate, int room) {
            if (gateFirst[gate] == room) {
                return gateSecond[gate];
            }
            return gateSecond[gate] == room ? gateFirst[gate] : NONE;
        }
    }

    /** Reads the tape's text into a town, up to its first fault. */
    private static final class Reader {
        private static final int NO_SUCH_TEXT = 1;
        private static final int WRONG_NUMBER = 2;
        private static final int WRONG_NAME = 3;
        private static final int TOO_DEEP = 4;
        private static final int TOO_MANY = 5;

        /** Six places a word, in the order of their numbers below. */
        private static final String OWN_WORDS = "room  man   lets  bribe tires gate  by    personat    to    coins tact  hour  passedwho   day   or    and   not   all   min   max   ";
        private static final int W_ROOM = 0;
        private static final int W_MAN = 1;
        private static final int W_LETS = 2;
        private static final int W_BRIBE = 3;
        private static final int W_TIRES = 4;
        private static final int W_GATE = 5;
        private static final int W_BY = 6;
        private static final int W_PERSON = 7;
        private static final int W_AT = 8;
        private static final int W_TO = 9;
        private static final int W_COINS = 10;
        private static final int W_TACT = 11;
        private static final int W_HOUR = 12;
        private static final int W_DAY = 15;
        private static final int W_OR = 16;
        private static final int W_AND = 17;
        private static final int W_NOT = 18;
        private static final int W_ALL = 19;
        private static final int W_MIN = 20;
        private static final int W_MAX = 21;
        private static final int WORD_COUNT = 22;

        /** What can stand next; GLUED is a word or number without the blank that it needs ahead. */
        private static final int ENDED = 0;
        private static final int WORD = 1;
        private static final int NUMBER = 2;
        private static final int SIGN = 3;
        private static final int GLUED = 4;

        private static final int LEVEL_OR = 0;
        private static final int LEVEL_AND = 1;
        private static final int LEVEL_SUM = 2;
        private static final int LEVEL_PRODUCT = 3;

        private final Tape tape = new Tape();
        /** A town beside the told one, so that a fault leaves that one as it is. */
        private Town town = new Town();
        private int fault;
        private int faultPlace = NONE;
        private int kind;
        /** Its own number if the next thing is an OWN WORD, else NONE. */
        private int word;
        /** The byte, if the next thing is a sign, else NONE. */
        private int sign;
        private int start;
        private int behind;

        boolean read() {
            begin();
            for (int i = 0; i < STATEMENTS_MOST && kind != ENDED; i++) {
                switch (word) {
                    case W_ROOM:
                        readRoom();
                        break;
                    case W_MAN:
                        readMan();
                        break;
                    case W_GATE:
                        readGate();
                        break;
                    case W_PERSON:
                        readPerson();
                        break;
                    case W_HOUR:
                        take();
                        town.firstHour = takeNumber(0, HOUR_MOST);
                        break;
                    default:
                        fail(NO_SUCH_TEXT, start);
                        break;
                }
                takeSign(';');
                town.statements = i + 1;
            }
            if (kind != ENDED) {
                fail(TOO_MANY, start);
            }
            return fault == 0;
        }

        private void begin() {
            town.clear();
            fault = 0;
            faultPlace = NONE;
            kind = SIGN;
            behind = 0;
            take();
        }

        private void readRoom() {
            if (takeAnother(ROOM)) {
                takeNewName(ROOM);
            }
        }

        private void readMan() {
            if (!takeAnother(MAN)) {
                return;
            }
            int man = takeNewName(MAN);
            takeWord(W_LETS);
            town.testFrom[man] = town.codeLength;
            readChain(LEVEL_OR, 0);
            takeWord(W_BRIBE);
            town.bribeFrom[man] = town.codeLength;
            readChain(LEVEL_SUM, 0);
            town.bribeEnd[man] = town.codeLength;
            takeWord(W_TIRES);
            town.tires[man] = takeNumber(1, TIRES_MOST);
        }

        private void readGate() {
            if (!takeAnother(GATE)) {
                return;
            }
            int gate = town.counts[GATE];
            town.gateFirst[gate] = takeOldName(ROOM);
            int place = start;
            town.gateSecond[gate] = takeOldName(ROOM);
            if (town.gateFirst[gate] == town.gateSecond[gate]) {
                fail(WRONG_NAME, place);
            }
            takeWord(W_BY);
            place = start;
            int man = takeOldName(MAN);
            if ((town.standingBits() >> man & 1) == 1) {
                fail(WRONG_NAME, place);
            }
            town.gateMan[gate] = man;
            town.counts[GATE]++;
        }

        private void readPerson() {
            if (!takeAnother(PERSON)) {
                return;
            }
            int person = takeNewName(PERSON);
            takeWord(W_AT);
            town.personPlace[person] = takeOldName(ROOM);
            takeWord(W_TO);
            town.personWish[person] = takeOldName(ROOM);
            takeWord(W_COINS);
            town.personCoins[person] = takeNumber(0, COINS_MOST);
            takeWord(W_TACT);
            town.personTact[person] = takeNumber(0, TACT_MOST);
        }

        /** Parts of one level with that level's joints between them: TEST, BOTH, SUM, PRODUCT. */
        private void readChain(int level, int open) {
            int joint = NONE;
            for (int i = 0; i < TAPE_MOST; i++) {
                if (level == LEVEL_AND) {
                    readFact(open);
                } else if (level == LEVEL_PRODUCT) {
                    readPart(open);
                } else {
                    readChain(level + 1, open);
                }
                if (joint != NONE) {
                    town.emit(joint);
                }
                joint = nextJoint(level);
                if (joint == NONE) {
                    return;
                }
                take();
            }
        }

        private void readFact(int open) {
            if (word == W_NOT) {
                if (takeOpening(open)) {
                    readFact(open + 1);
                    town.emit(Judge.NOT);
                }
            } else if (sign == '[') {
                if (takeOpening(open)) {
                    readChain(LEVEL_OR, open + 1);
                    takeSign(']');
                }
            } else if (word == W_ALL) {
                town.emit(1);
                take();
            } else {
                readChain(LEVEL_SUM, open);
                int comparison = takeComparison();
                readChain(LEVEL_SUM, open);
                town.emit(comparison);
            }
        }

        private void readPart(int open) {
            if (kind == NUMBER) {
                town.emit(takeNumber(0, NUMBER_MOST));
            } else if (word >= W_TACT && word <= W_DAY) {
                town.emit(Judge.FIRST_FACT - (word - W_TACT));
                take();
            } else if (word == W_MIN || word == W_MAX) {
                int op = word == W_MIN ? Judge.LEAST : Judge.GREATEST;
                take();
                readBrackets(open, true);
                town.emit(op);
            } else {
                readBrackets(open, false);
            }
        }

        /** One SUM in brackets, or two. */
        private void readBrackets(int open, boolean two) {
            if (sign != '(') {
                fail(NO_SUCH_TEXT, start);
                return;
            }
            if (takeOpening(open)) {
                readChain(LEVEL_SUM, open + 1);
                if (two) {
                    takeSign(',');
                    readChain(LEVEL_SUM, open + 1);
                }
                takeSign(')');
            }
        }

        /** The operation that stands next, if it joins parts of this level, else NONE. */
        private int nextJoint(int level) {
            switch (level) {
                case LEVEL_OR:
                    return word == W_OR ? Judge.OR : NONE;
                case LEVEL_AND:
                    return word == W_AND ? Judge.AND : NONE;
                case LEVEL_SUM:
                    return sign == '+' ? Judge.PLUS : sign == '-' ? Judge.MINUS : NONE;
                default:
                    return sign == '*' ? Judge.TIMES : sign == '/' ? Judge.OVER : NONE;
            }
        }

        /** The first fault counts; behind it nothing stands next, so that all reading ends. */
        private void fail(int which, int place) {
            if (fault == 0) {
                fault = which;
                faultPlace = place;
            }
            kind = ENDED;
            word = NONE;
            sign = NONE;
        }

        private boolean takeAnother(int what) {
            if (town.counts[what] >= MOST[what]) {
                fail(TOO_MANY, start);
                return false;
            }
            take();
            return true;
        }

        private boolean takeOpening(int open) {
            if (open >= OPEN_MOST) {
                fail(TOO_DEEP, start);
                return false;
            }
            take();
            return true;
        }

        private void takeWord(int wanted) {
            if (word == wanted) {
                take();
            } else {
                fail(NO_SUCH_TEXT, start);
            }
        }

        private void takeSign(int wanted) {
            if (sign == wanted) {
                take();
            } else {
                fail(NO_SUCH_TEXT, start);
            }
        }

        private int takeComparison() {
            int op = sign == '<' ? Judge.LESS : sign == '>' ? Judge.MORE : Judge.LIKE;
            if (sign == '<' || sign == '>' || sign == '=') {
                take();
            } else {
                fail(NO_SUCH_TEXT, start);
            }
            return op;
        }

        private int takeNumber(int least, int most) {
            if (kind != NUMBER || behind - start > DIGITS_MOST) {
                fail(NO_SUCH_TEXT, kind == NUMBER ? start + DIGITS_MOST : start);
                return least;
            }
            int number = 0;
            for (int i = start; i < behind; i++) {
                number = number * 10 + tape.byteAt(i) - '0';
            }
            if (number < least || number > most) {
                fail(WRONG_NUMBER, start);
                return least;
            }
            take();
            return number;
        }

        /** A name as its letters' bits; 0, which is none, with a fault. */
        private int takeName() {
            if (kind != WORD || word != NONE) {
                fail(NO_SUCH_TEXT, start);
                return 0;
            }
            if (behind - start > NAME_MOST) {
                fail(NO_SUCH_TEXT, start + NAME_MOST);
                return 0;
            }
            int name = 0;
            for (int i = behind - 1; i >= start; i--) {
                name = name << Town.LETTER_BITS | tape.byteAt(i) - 'a' + 1;
            }
            take();
            return name;
        }

        /** Gives the next number of a kind this name; the caller has seen that there is room for it. */
        private int takeNewName(int what) {
            int place = start;
            int name = takeName();
            if (town.knows(name)) {
                fail(WRONG_NAME, place);
            }
            int number = town.counts[what];
            town.names[what][number] = name;
            town.counts[what]++;
            return number;
        }

        /** The number of the one of this kind; 0 with a fault. */
        private int takeOldName(int what) {
            int place = start;
            int number = town.numberOf(what, takeName());
            if (number == NONE) {
                fail(WRONG_NAME, place);
                return 0;
            }
            return number;
        }

        /** Goes on to what stands next; nothing does behind a fault. */
        private void take() {
            if (fault != 0) {
                return;
            }
            boolean solid = kind == WORD || kind == NUMBER;
            int from = behind;
            start = from;
            while (start < tape.length && (tape.byteAt(start) == 32 || tape.byteAt(start) == 10)) {
                start++;
            }
            kind = kindOf(tape.byteAt(start));
            behind = kind == ENDED ? start : start + 1;
            if (kind == WORD || kind == NUMBER) {
                while (behind < tape.length && kindOf(tape.byteAt(behind)) == kind) {
                    behind++;
                }
                kind = solid && start == from ? GLUED : kind;
            }
            word = kind == WORD ? ownWord() : NONE;
            sign = kind == SIGN ? tape.byteAt(start) : NONE;
        }

        private static int kindOf(int letter) {
            if (letter == NONE) {
                return ENDED;
            }
            if (letter >= 'a' && letter <= 'z') {
                return WORD;
            }
            return letter >= '0' && letter <= '9' ? NUMBER : SIGN;
        }

        private int ownWord() {
            int length = behind - start;
            for (int i = 0; i < WORD_COUNT && length <= NAME_MOST; i++) {
                boolean same = true;
                for (int k = 0; k < NAME_MOST && same; k++) {
                    same = OWN_WORDS.charAt(i * NAME_MOST + k) == (k < length ? tape.bytes[start + k] : ' ');
                }
                if (same) {
                    return i;
                }
            }
            return NONE;
        }
    }

    /** Reckons what tests and bribes come to: the code is a row of numbers (0 and above) and operations (below). */
    private static final class Judge {
        private static final int FIRST_FACT = -1;
        private static final int LAST_FACT = -5;
        private static final int NOT = -10;
        private static final int OR = -11;
        private static final int AND = -12;
        private static final int LESS = -13;
        private static final int MORE = -14;
        private static final int LIKE = -15;
        private static final int PLUS = -16;
        private static final int MINUS = -17;
        private static final int TIMES = -18;
        private static final int OVER = -19;
        private static final int LEAST = -20;
        private static final int GREATEST = -21;

        private static final int VALUE_MOST = 1000000;
        /** Each of the 6 that are open keeps 3 values at most, so that half of this is never used. */
        private static final int STACK = 64;

        /** tact, hour, passed, who, day: in the order of their own words. */
        private final int[] facts = new int[FIRST_FACT - LAST_FACT + 1];
        private final int[] stack = new int[STACK];

        int price(Town town, int[] row, int man, int person, int tact) {
            if (town.hasFainted(row, man) || Town.areFriends(row, person, man)) {
                return 0;
            }
            setFacts(tact, row[HOUR], row[PASSED + man], person, row[DAY]);
            return priceByFacts(town, man);
        }

        /** As the first one in front of the man, no friend of his. */
        int priceFresh(Town town, int man, int person, int hour, int day) {
            setFacts(town.personTact[person], hour, 0, person, day);
            return priceByFacts(town, man);
        }

        void priceAll(Town town, int[] row, int[][] prices) {
            for (int man = 0; man < town.counts[MAN]; man++) {
                for (int person = 0; person < town.counts[PERSON]; person++) {
                    prices[man][person] = price(town, row, man, person, town.personTact[person]);
                }
            }
        }

        private void setFacts(int tact, int hour, int passed, int who, int day) {
            facts[0] = tact;
            facts[1] = hour;
            facts[2] = passed;
            facts[3] = who;
            facts[4] = day;
        }

        private int priceByFacts(Town town, int man) {
            if (reckon(town.code, town.testFrom[man], town.bribeFrom[man]) == 1) {
                return 0;
            }
            return Math.max(0, Math.min(BRIBE_MOST, reckon(town.code, town.bribeFrom[man], town.bribeEnd[man])));
        }

        private int reckon(int[] code, int from, int to) {
            int height = 0;
            for (int i = from; i < to && i < code.length; i++) {
                int op = code[i];
                if (op >= LAST_FACT) {
                    if (height < STACK) {
                        stack[height] = op >= 0 ? op : facts[FIRST_FACT - op];
                        height++;
                    }
                } else if (op == NOT) {
                    if (height > 0) {
                        stack[height - 1] = 1 - stack[height - 1];
                    }
                } else if (height > 1) {
                    height--;
                    stack[height - 1] = join(op, stack[height - 1], stack[height]);
                }
            }
            return height > 0 ? stack[0] : 0;
        }

        private static int join(int op, int a, int b) {
            switch (op) {
                case OR:
                    return a | b;
                case AND:
                    return a & b;
                case LESS:
                    return a < b ? 1 : 0;
                case MORE:
                    return a > b ? 1 : 0;
                case LIKE:
                    return a == b ? 1 : 0;
                case OVER:
                    return b == 0 ? 0 : Math.floorDiv(a, b);
                case LEAST:
                    return Math.min(a, b);
                case GREATEST:
                    return Math.max(a, b);
                default:
                    long value = op == PLUS ? a + b : op == MINUS ? a - b : (long) a * b;
                    return (int) Math.max(-VALUE_MOST, Math.min(VALUE_MOST, value));
            }
        }
    }

    /** How far rooms are from one another, by weights that gates are given. */
    private static final class Ways {
        /** A weight of a gate that cannot be gone through. */
        private static final int SHUT = -1;
        /** Above all that weights of one way can come to. */
        private static final int NEVER = 1 << 28;
        /** A way's weight is its coins times this and its gates, of which there are 9 at most. */
        private static final int STEP_ROOM = 16;

        private final int[] weight = new int[GATES_MOST];
        private final int[] far = new int[ROOMS_MOST];
        private final int[] route = new int[ROOMS_MOST];
        private int steps;

        /** How far each room is from this one, the same both ways. */
        void measure(Town town, int from) {
            Arrays.fill(far, NEVER);
            far[from] = 0;
            boolean nearer = true;
            for (int round = 0; round < ROOMS_MOST && nearer; round++) {
                nearer = false;
                for (int gate = 0; gate < town.counts[GATE]; gate++) {
                    if (weight[gate] != SHUT && shorten(town.gateFirst[gate], town.gateSecond[gate], weight[gate])) {
                        nearer = true;
                    }
                }
            }
        }

        private boolean shorten(int one, int other, int by) {
            if (far[one] + by < far[other]) {
                far[other] = far[one] + by;
                return true;
            }
            if (far[other] + by < far[one]) {
                far[one] = far[other] + by;
                return true;
            }
            return false;
        }

        /** Lays the way into route and answers its coins; NONE without one. Weights are coins and steps. */
        int trace(Town town, int from, int goal) {
            steps = 0;
            measure(town, goal);
            if (far[from] >= NEVER) {
                return NONE;
            }
            int here = from;
            while (here != goal && steps < route.length) {
                int gate = firstOnward(town, here);
                if (gate == NONE) {
                    return NONE;
                }
                route[steps] = gate;
                steps++;
                here = town.across(gate, here);
            }
            return far[from] / STEP_ROOM;
        }

        /** The gate to the first room, then the first gate to it, by which nothing is lost. */
        private int firstOnward(Town town, int here) {
            int best = NONE;
            int bestRoom = ROOMS_MOST;
            for (int gate = 0; gate < town.counts[GATE]; gate++) {
                int there = town.across(gate, here);
                if (there != NONE && there < bestRoom && far[there] + weight[gate] == far[here]) {
                    best = gate;
                    bestRoom = there;
                }
            }
            return best;
        }

        /** The first gate, none of those in the bits, to a room that is nearer; NONE without one. */
        int firstNearer(Town town, int here, int used) {
            for (int gate = 0; gate < town.counts[GATE]; gate++) {
                int there = town.across(gate, here);
                if (there != NONE && far[there] < far[here] && (used >> gate & 1) == 0) {
                    return gate;
                }
            }
            return NONE;
        }
    }

    /** An order of men at gates, and how well people fare by it. */
    private static final class Order {
        private final int[] men = new int[GATES_MOST];
        private int people;
        private int coins;
        private int exchanges;
        private boolean known;

        void rate(Town town, int[] row, int[][] prices, Ways ways) {
            people = 0;
            coins = 0;
            for (int person = 0; person < town.counts[PERSON]; person++) {
                for (int gate = 0; gate < town.counts[GATE]; gate++) {
                    ways.weight[gate] = prices[men[gate]][person];
                }
                ways.measure(town, row[PLACE + person]);
                int costs = ways.far[row[WISH + person]];
                if (costs <= row[COINS + person]) {
                    people++;
                    coins += costs;
                }
            }
        }

        boolean isBetterThan(Order other) {
            return people > other.people || people == other.people && coins < other.coins;
        }

        void copyFrom(Order other) {
            System.arraycopy(other.men, 0, men, 0, men.length);
            people = other.people;
            coins = other.coins;
        }

        int tell(int k, int gates) {
            if (k == NONE) {
                return people;
            }
            if (k == ASK_SUM) {
                return coins;
            }
            if (k == ASK_EXCHANGES) {
                return exchanges;
            }
            return within(k, gates) ? men[k] : NONE;
        }
    }

    /** Who had best stand where. Found once, then known until something changes. */
    private static final class Standings {
        private final int[][] prices = new int[MEN_MOST][PEOPLE_MOST];
        private final Order stood = new Order();
        private final Order exchanged = new Order();
        private final Order tried = new Order();

        void forget() {
            stood.known = false;
            exchanged.known = false;
        }

        /** All orders, the first by men's numbers first, so that only a better one takes its place. */
        void tryOrders(Town town, int[] row, Ways ways) {
            int gates = town.counts[GATE];
            firstOrder(town);
            tried.rate(town, row, prices, ways);
            stood.copyFrom(tried);
            for (int i = 1; i < ORDERS_BOUND && nextOrder(tried.men, gates); i++) {
                tried.rate(town, row, prices, ways);
                if (tried.isBetterThan(stood)) {
                    stood.copyFrom(tried);
                }
            }
            stood.known = true;
        }

        private void firstOrder(Town town) {
            int bits = town.standingBits();
            int gate = 0;
            for (int man = 0; man < MEN_MOST && gate < GATES_MOST; man++) {
                if ((bits >> man & 1) == 1) {
                    tried.men[gate] = man;
                    gate++;
                }
            }
        }

        /** Turns an order into the next one by men's numbers; false when it is the last. */
        private static boolean nextOrder(int[] men, int gates) {
            int rise = gates - 2;
            while (rise >= 0 && men[rise] > men[rise + 1]) {
                rise--;
            }
            if (rise < 0) {
                return false;
            }
            int above = gates - 1;
            while (above > rise + 1 && men[above] < men[rise]) {
                above--;
            }
            exchangeIn(men, rise, above);
            for (int i = rise + 1, j = gates - 1; i < j; i++, j--) {
                exchangeIn(men, i, j);
            }
            return true;
        }

        void tryExchanges(Town town, int[] row, Ways ways) {
            System.arraycopy(row, STANDS, exchanged.men, 0, GATES_MOST);
            exchanged.rate(town, row, prices, ways);
            exchanged.exchanges = 0;
            for (int i = 0; i < EXCHANGES_BOUND && betterExchange(town, row, ways); i++) {
                exchanged.exchanges++;
            }
            exchanged.known = true;
        }

        /** Does the best exchange of two gates' men; false when none is better than what is. */
        private boolean betterExchange(Town town, int[] row, Ways ways) {
            int bestFirst = NONE;
            int bestSecond = NONE;
            System.arraycopy(exchanged.men, 0, tried.men, 0, GATES_MOST);
            for (int first = 0; first < town.counts[GATE]; first++) {
                for (int second = first + 1; second < town.counts[GATE]; second++) {
                    exchangeIn(tried.men, first, second);
                    tried.rate(town, row, prices, ways);
                    if (tried.isBetterThan(exchanged)) {
                        bestFirst = first;
                        bestSecond = second;
                        exchanged.people = tried.people;
                        exchanged.coins = tried.coins;
                    }
                    exchangeIn(tried.men, first, second);
                }
            }
            if (bestFirst == NONE) {
                return false;
            }
            exchangeIn(exchanged.men, bestFirst, bestSecond);
            return true;
        }
    }

    /** The last rows of things that change, each as it was ahead of an act. */
    private static final class History {
        private final int[][] rows = new int[UNDOS_MOST][ROW];
        private int next;
        private int count;

        void clear() {
            count = 0;
        }

        void keep(int[] row) {
            System.arraycopy(row, 0, rows[next], 0, ROW);
            next = (next + 1) % UNDOS_MOST;
            count = Math.min(count + 1, UNDOS_MOST);
        }

        boolean bringBack(int[] row) {
            if (count == 0) {
                return false;
            }
            next = (next + UNDOS_MOST - 1) % UNDOS_MOST;
            count--;
            System.arraycopy(rows[next], 0, row, 0, ROW);
            return true;
        }
    }

    /** All that changes as bytes, and back. */
    private static final class Image {
        private static final int HEAD = 3;
        private static final int MAN_BYTES = 3;
        private static final int PERSON_BYTES = 6;
        private static final int LONGEST = HEAD + GATES_MOST + MAN_BYTES * MEN_MOST + PERSON_BYTES * PEOPLE_MOST + 1;
        private static final int SUM_START = 157;
        private static final int SUM_MOD = 247;

        private final int[] bytes = new int[LONGEST];
        private int length;

        void write(Town town, int[] row) {
            length = 0;
            putTwo(row[DAY]);
            put(row[HOUR]);
            for (int gate = 0; gate < town.counts[GATE]; gate++) {
                put(row[STANDS + gate]);
            }
            for (int man = 0; man < town.counts[MAN]; man++) {
                put(row[PASSED + man]);
                putTwo(row[PURSE + man]);
            }
            for (int person = 0; person < town.counts[PERSON]; person++) {
                put(row[PLACE + person]);
                put(row[WISH + person]);
                putTwo(row[COINS + person]);
                putTwo(row[FRIENDS + person]);
            }
            put(sumUp(bytes, length));
        }

        private void put(int value) {
            if (length < LONGEST) {
                bytes[length] = value & 255;
                length++;
            }
        }

        private void putTwo(int value) {
            put(value >> 8);
            put(value);
        }

        private static int sumUp(int[] bytes, int count) {
            int sum = SUM_START;
            for (int i = 0; i < count && i < bytes.length; i++) {
                sum = (3 * sum + bytes[i]) % SUM_MOD;
            }
            return sum;
        }

        /** Whether the tape is as long as an image of this town and ends with its sum. */
        static boolean isOf(Town town, Tape tape) {
            int wanted = HEAD + town.counts[GATE] + MAN_BYTES * town.counts[MAN]
                    + PERSON_BYTES * town.counts[PERSON] + 1;
            return tape.length == wanted && tape.byteAt(wanted - 1) == sumUp(tape.bytes, wanted - 1);
        }

        static void read(Town town, Tape tape, int[] row) {
            Arrays.fill(row, 0);
            row[DAY] = two(tape, 0);
            row[HOUR] = tape.byteAt(2);
            int from = HEAD;
            for (int gate = 0; gate < town.counts[GATE]; gate++) {
                row[STANDS + gate] = tape.byteAt(from + gate);
            }
            from += town.counts[GATE];
            for (int man = 0; man < town.counts[MAN]; man++) {
                row[PASSED + man] = tape.byteAt(from);
                row[PURSE + man] = two(tape, from + 1);
                from += MAN_BYTES;
            }
            for (int person = 0; person < town.counts[PERSON]; person++) {
                row[PLACE + person] = tape.byteAt(from);
                row[WISH + person] = tape.byteAt(from + 1);
                row[COINS + person] = two(tape, from + 2);
                row[FRIENDS + person] = two(tape, from + 4);
                from += PERSON_BYTES;
            }
        }

        private static int two(Tape tape, int place) {
            return tape.byteAt(place) << 8 | tape.byteAt(place + 1);
        }

        static boolean canBe(Town town, int[] row) {
            return row[DAY] <= DAY_MOST && row[HOUR] <= HOUR_MOST && standAsTold(town, row)
                    && menCanBe(town, row) && peopleCanBe(town, row)
                    && sumOf(row, COINS, PEOPLE_MOST) + sumOf(row, PURSE, MEN_MOST)
                    == sumOf(town.personCoins, 0, town.counts[PERSON]);
        }

        private static boolean standAsTold(Town town, int[] row) {
            int missing = town.standingBits();
            for (int gate = 0; gate < town.counts[GATE]; gate++) {
                int man = row[STANDS + gate];
                if (man >= MEN_MOST || (missing >> man & 1) == 0) {
                    return false;
                }
                missing ^= 1 << man;
            }
            return true;
        }

        private static boolean menCanBe(Town town, int[] row) {
            for (int man = 0; man < town.counts[MAN]; man++) {
                if (row[PASSED + man] > PASSED_MOST) {
                    return false;
                }
            }
            return true;
        }

        private static boolean peopleCanBe(Town town, int[] row) {
            for (int person = 0; person < town.counts[PERSON]; person++) {
                if (row[PLACE + person] >= town.counts[ROOM] || row[WISH + person] >= town.counts[ROOM]
                        || row[FRIENDS + person] >> town.counts[MAN] != 0) {
                    return false;
                }
            }
            return true;
        }
    }
}
