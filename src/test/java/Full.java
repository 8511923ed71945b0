/** Towns that have as many of each kind as can be. */
final class Full {
    static final String OWN_WORDS = "room man lets bribe tires gate by person at to coins tact hour passed who day or and not all min max";

    private Full() {
    }

    /** Names of a kind: its letter and a, b, c and on. */
    static String name(char kind, int number) {
        return "" + kind + (char) ('a' + number);
    }

    static String rooms(int count) {
        StringBuilder s = new StringBuilder();
        for (int i = 0; i < count; i++) {
            s.append("room ").append(name('r', i)).append(';');
        }
        return s.toString();
    }

    /** Men who let nobody; man i wants i coins. */
    static String men(int count) {
        StringBuilder s = new StringBuilder();
        for (int i = 0; i < count; i++) {
            s.append("man ").append(name('m', i)).append(" lets not all bribe ").append(i).append(" tires ").append(i + 1).append(';');
        }
        return s.toString();
    }

    /** A row of rooms, ra to rj by the men's numbers, then gates from ra to the last ones. */
    static String gates(int count) {
        StringBuilder s = new StringBuilder();
        for (int i = 0; i < count; i++) {
            int first = i < 9 ? i : 0;
            int second = i < 9 ? i + 1 : i - 2;
            s.append("gate ").append(name('r', first)).append(' ').append(name('r', second)).append(" by ").append(name('m', i)).append(';');
        }
        return s.toString();
    }

    /** Person i is at room i, goes to room i + 1, and has 10 i coins and tact i. */
    static String people(int count) {
        StringBuilder s = new StringBuilder();
        for (int i = 0; i < count; i++) {
            s.append("person ").append(name('p', i)).append(" at ").append(name('r', i)).append(" to ").append(name('r', i + 1));
            s.append(" coins ").append(10 * i).append(" tact ").append(i).append(';');
        }
        return s.toString();
    }

    static String text() {
        return rooms(10) + men(12) + gates(12) + people(6);
    }

    static TenthMan town() {
        return Check.told(text());
    }
}
