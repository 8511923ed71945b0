import java.util.ArrayList;
import java.util.List;
import java.util.Random;

/** Texts of towns by lot, for the tests that compare with models. */
final class Towns {
    private final Random random;

    Towns(long seed) {
        random = new Random(seed);
    }

    int below(int n) {
        return random.nextInt(n);
    }

    private String blank() {
        return random.nextInt(6) == 0 ? random.nextBoolean() ? "\n" : "  \n " : " ";
    }

    private String maybe() {
        return random.nextInt(3) == 0 ? blank() : "";
    }

    String sum(int open) {
        StringBuilder text = new StringBuilder(part(open));
        int more = random.nextInt(6) - 2;
        for (int i = 0; i < more; i++) {
            text.append(maybe()).append("+-*/".charAt(random.nextInt(4))).append(maybe()).append(part(open));
        }
        return text.toString();
    }

    private String part(int open) {
        int kind = random.nextInt(open > 0 ? 12 : 9);
        if (kind < 2) {
            return Integer.toString(random.nextInt(random.nextInt(8) == 0 ? 10000 : 30));
        }
        if (kind < 9) {
            return new String[] {"tact", "hour", "passed", "who", "day", "tact", "hour"}[kind - 2];
        }
        if (kind == 9) {
            return "(" + maybe() + sum(open - 1) + maybe() + ")";
        }
        return (kind == 10 ? "min" : "max") + maybe() + "(" + sum(open - 1) + "," + maybe() + sum(open - 1) + ")";
    }

    String test(int open) {
        StringBuilder text = new StringBuilder(fact(open));
        int more = random.nextInt(6) - 3;
        for (int i = 0; i < more; i++) {
            text.append(" ").append(random.nextBoolean() ? "or" : "and").append(blank()).append(fact(open));
        }
        return text.toString();
    }

    private String fact(int open) {
        int kind = random.nextInt(open > 0 ? 10 : 7);
        if (kind == 0 && random.nextInt(4) == 0) {
            return "all";
        }
        if (kind < 7) {
            return sum(open) + maybe() + "<>=".charAt(random.nextInt(3)) + maybe() + sum(open);
        }
        if (kind == 7) {
            return "[" + maybe() + test(open - 1) + maybe() + "]";
        }
        return "not " + fact(open - 1);
    }

    /** A bribe that is mostly small, so that people can pay now and then. */
    private String bribe() {
        return switch (random.nextInt(5)) {
            case 0 -> "0";
            case 1 -> Integer.toString(random.nextInt(12));
            case 2 -> "tact/" + (2 + random.nextInt(9));
            case 3 -> "who*" + random.nextInt(9);
            default -> sum(2);
        };
    }

    private String testOfMan() {
        return switch (random.nextInt(4)) {
            case 0 -> "tact>" + random.nextInt(100);
            case 1 -> "hour<" + random.nextInt(24) + " or who=" + random.nextInt(6);
            case 2 -> "not all";
            default -> test(2);
        };
    }

    /** A town without a fault; at most so many gates. */
    String text(int gatesMost) {
        while (true) {
            String text = attempt(gatesMost);
            if (text.length() <= 1600) {
                return text;
            }
        }
    }

    private String attempt(int gatesMost) {
        List<String> parts = new ArrayList<>();
        int rooms = 2 + random.nextInt(9);
        int men = 1 + random.nextInt(12);
        int gates = Math.min(random.nextInt(gatesMost + 1), men);
        int people = random.nextInt(7);
        for (int i = 0; i < rooms; i++) {
            parts.add("room r" + (char) ('a' + i));
        }
        List<Integer> order = new ArrayList<>();
        for (int i = 0; i < men; i++) {
            order.add(random.nextInt(order.size() + 1), i);
            parts.add("man m" + (char) ('a' + i) + blank() + "lets " + testOfMan() + blank() + "bribe " + bribe()
                    + " tires " + (1 + random.nextInt(random.nextBoolean() ? 3 : 20)));
        }
        for (int i = 0; i < gates; i++) {
            int first = random.nextInt(rooms);
            int second = (first + 1 + random.nextInt(rooms - 1)) % rooms;
            parts.add("gate r" + (char) ('a' + first) + " r" + (char) ('a' + second) + " by m"
                    + (char) ('a' + order.get(i)));
        }
        for (int i = 0; i < people; i++) {
            parts.add("person p" + (char) ('a' + i) + " at r" + (char) ('a' + random.nextInt(rooms)) + " to r"
                    + (char) ('a' + random.nextInt(rooms)) + " coins " + random.nextInt(random.nextBoolean() ? 60 : 1000)
                    + " tact " + random.nextInt(100));
        }
        for (int i = random.nextInt(3); i > 0; i--) {
            parts.add(random.nextInt(parts.size()), "hour " + random.nextInt(24));
        }
        StringBuilder text = new StringBuilder();
        for (String part : parts) {
            text.append(part).append(maybe()).append(";").append(maybe());
        }
        return text.toString();
    }

    private static final String[] PIECES = {"room", "man", "lets", "bribe", "tires", "gate", "by", "person", "at", "to",
        "coins", "tact", "hour", "passed", "who", "day", "or", "and", "not", "all", "min", "max", "(", ")", "[", "]", "+",
        "-", "*", "/", "<", ">", "=", ",", ";", "0", "5", "20", "21", "99", "100", "999", "1000", "12345", "9999", "ra",
        "rb", "ma", "mb", "pa", "abcdef", "abcdefg", "personx", "persons", "x", "R", "!", "\u00e9", "\n", " ", "\t", ""};

    /** The text with one to three places spoilt. */
    String spoilt(String text) {
        StringBuilder s = new StringBuilder(text);
        for (int i = random.nextInt(3); i >= 0 && s.length() > 0; i--) {
            int from = random.nextInt(s.length());
            switch (random.nextInt(9)) {
                case 6 -> replaceNumber(s, from);
                case 7 -> s.insert(s.indexOf(";") + 1, "hour 3;".repeat(random.nextInt(80)));
                case 8 -> s.append(new String[] {"room q;", "man q lets all bribe 1 tires 1;", "person q at ra to ra coins 1 tact 1;",
                    "gate ra rb by ma;"}[random.nextInt(4)]);
                case 0 -> s.deleteCharAt(from);
                case 1 -> s.delete(from, Math.min(s.length(), from + 1 + random.nextInt(8)));
                case 2 -> s.insert(from, PIECES[random.nextInt(PIECES.length)]);
                case 3 -> s.insert(from, " " + PIECES[random.nextInt(PIECES.length)] + " ");
                case 4 -> replaceWord(s, from);
                default -> s.setLength(random.nextInt(20) == 0 ? from : s.length());
            }
        }
        return s.length() > 1600 ? s.substring(0, 1600) : s.toString();
    }

    private void replaceWord(StringBuilder s, int from) {
        int first = from;
        while (first > 0 && Character.isLetterOrDigit(s.charAt(first - 1))) {
            first--;
        }
        int last = from;
        while (last < s.length() && Character.isLetterOrDigit(s.charAt(last))) {
            last++;
        }
        s.replace(first, Math.max(last, first), PIECES[random.nextInt(PIECES.length)]);
    }

    private void replaceNumber(StringBuilder s, int from) {
        int first = from;
        while (first < s.length() && !Character.isDigit(s.charAt(first))) {
            first++;
        }
        int last = first;
        while (last < s.length() && Character.isDigit(s.charAt(last))) {
            last++;
        }
        s.replace(first, last, Integer.toString(random.nextInt(random.nextBoolean() ? 2000 : 110)));
    }

    /** Tokens by lot, so that deep and odd orders come about. */
    String jumble() {
        StringBuilder s = new StringBuilder("man m lets ");
        if (random.nextBoolean()) {
            return s.append(nest(8)).append(" bribe ").append(nestSum(random.nextInt(9))).append(" tires 1;").toString();
        }
        for (int i = random.nextInt(12); i >= 0; i--) {
            s.append(random.nextInt(3) == 0 ? fact(5) : PIECES[11 + random.nextInt(24)]).append(maybe());
        }
        return s.append(" bribe 1 tires 1;").toString();
    }

    private String nest(int most) {
        int depth = random.nextInt(most + 1);
        if (depth == 0) {
            return nestSum(random.nextInt(4)) + "<" + nestSum(random.nextInt(4));
        }
        return switch (random.nextInt(4)) {
            case 0 -> "not " + nest(depth - 1);
            case 1 -> "[" + nest(depth - 1) + "]";
            case 2 -> "[ all or " + nest(depth - 1) + " ]";
            default -> "not [ not all and " + nest(depth - 1) + "] and not " + nest(depth - 1);
        };
    }

    private String nestSum(int depth) {
        if (depth == 0) {
            return "1";
        }
        return switch (random.nextInt(3)) {
            case 0 -> "(" + nestSum(depth - 1) + ")";
            case 1 -> "min(2," + nestSum(depth - 1) + "+1)";
            default -> "(1)*max (" + nestSum(depth - 1) + ",(3))";
        };
    }
}
