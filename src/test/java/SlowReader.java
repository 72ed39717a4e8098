import java.util.Arrays;
import java.util.HashMap;
import java.util.List;
import java.util.Map;

/** Reads a text byte by byte, as section I and IV of the document tell it, and stops at its first FAULT. */
final class SlowReader {
    /** Where the reader stopped. */
    static final class Fault extends RuntimeException {
        private static final long serialVersionUID = 1L;
        final int kind;
        final int place;

        Fault(int kind, int place) {
            this.kind = kind;
            this.place = place;
        }
    }

    static final List<String> OWN = Arrays.asList(("district gate at place road to steps lane over era long pace from car "
            + "shuts late sees pigs ahead behind minute day waits knows number closed drive or and not all min max")
            .split(" "));
    private static final List<String> STATEMENTS = Arrays.asList("gate", "place", "road", "lane", "era", "car", "shuts",
            "late", "sees", "pigs");
    private static final Map<String, Integer> MOST = Map.of("gate", 6, "place", 7, "way", 12, "era", 5, "car", 5,
            "shuts", 1, "late", 1, "sees", 1);

    private final String text;
    private int at = 0;
    private int miles = 0;
    private int open = 0;
    private List<String> parts = List.of();
    private final Map<String, String> names = new HashMap<>();
    private final Map<String, Integer> counts = new HashMap<>();

    SlowReader(String text) {
        this.text = text;
    }

    /** How many STATEMENTS a DISTRICT has. */
    int district() {
        int statements = 0;
        while (!isOver()) {
            if (statements == 80) {
                throw new Fault(5, at);
            }
            statement(statements == 0);
            sign(";");
            statements++;
        }
        if (statements == 0) {
            throw new Fault(1, at);
        }
        return statements;
    }

    void question() {
        parts = Arrays.asList("number", "at", "to", "from", "knows", "day", "waits", "closed", "drive");
        String kind = word("first", "last", "often", "total", "most", "least");
        if (kind.equals("first") || kind.equals("last") || kind.equals("often")) {
            test();
        } else {
            sum();
        }
        if (!isOver()) {
            throw new Fault(1, at);
        }
    }

    // ---- bytes

    private boolean isOver() {
        while (at < text.length() && (text.charAt(at) == ' ' || text.charAt(at) == '\n')) {
            at++;
        }
        return at == text.length();
    }

    private static boolean isLetter(char sign) {
        return sign >= 'a' && sign <= 'z';
    }

    private static boolean isDigit(char sign) {
        return sign >= '0' && sign <= '9';
    }

    /** The whole word that stands here; empty if none does, or if it stands at a word or number without a blank. */
    private String ahead() {
        if (isOver() || at > 0 && (isLetter(text.charAt(at - 1)) || isDigit(text.charAt(at - 1)))) {
            return "";
        }
        int stop = at;
        while (stop < text.length() && isLetter(text.charAt(stop))) {
            stop++;
        }
        return text.substring(at, stop);
    }

    private boolean takes(String word) {
        if (!ahead().equals(word)) {
            return false;
        }
        at += word.length();
        return true;
    }

    private String word(String... which) {
        String word = ahead();
        if (word.isEmpty() || !Arrays.asList(which).contains(word)) {
            throw new Fault(1, at);
        }
        at += word.length();
        return word;
    }

    private boolean takesSign(String signs) {
        if (isOver() || signs.indexOf(text.charAt(at)) < 0) {
            return false;
        }
        at++;
        return true;
    }

    private void sign(String signs) {
        if (!takesSign(signs)) {
            throw new Fault(1, at);
        }
    }

    private boolean isAtNumber() {
        return !isOver() && isDigit(text.charAt(at)) && !isLetter(at == 0 ? ' ' : text.charAt(at - 1));
    }

    private int number(int least, int most) {
        if (!isAtNumber()) {
            throw new Fault(1, at);
        }
        int start = at;
        int value = 0;
        for (; at < text.length() && isDigit(text.charAt(at)); at++) {
            if (at == start + 4) {
                throw new Fault(1, at);
            }
            value = 10 * value + text.charAt(at) - '0';
        }
        if (value < least || value > most) {
            throw new Fault(2, start);
        }
        return value;
    }

    private String name() {
        String name = ahead();
        if (name.isEmpty() || OWN.contains(name)) {
            throw new Fault(1, at);
        }
        if (name.length() > 6) {
            throw new Fault(1, at + 6);
        }
        at += name.length();
        return name;
    }

    // ---- STATEMENTS

    private void statement(boolean first) {
        isOver();
        int start = at;
        if (first) {
            word("district");
            miles = number(5, 60);
            return;
        }
        String kind = word(STATEMENTS.toArray(new String[0]));
        String sort = kind.equals("road") || kind.equals("lane") ? "way" : kind;
        counts.merge(sort, 1, Integer::sum);
        if (MOST.containsKey(sort) && counts.get(sort) > MOST.get(sort)) {
            throw new Fault(5, start);
        }
        switch (kind) {
            case "gate": given("gate"); word("at"); number(0, miles); break;
            case "place": given("place"); break;
            case "road": twoPlaces(); word("steps"); number(1, 60); break;
            case "lane": twoPlaces(); word("steps"); number(1, 60); word("over"); asked("gate"); break;
            case "era": given("era"); word("long"); number(1, 30); word("pace"); number(1, 9); word("from"); number(0, 99); break;
            case "car": given("car"); word("at"); twoPlaces(); word("from"); number(0, 99); break;
            case "shuts": parts = Arrays.asList("ahead", "behind", "long", "pace", "minute"); test(); break;
            case "late": parts = Arrays.asList("late", "long", "pace", "day", "waits"); sum(); break;
            case "sees": parts = Arrays.asList("waits", "knows", "day"); sum(); break;
            default: number(0, 100); break;
        }
    }

    private void given(String sort) {
        isOver();
        int start = at;
        if (names.putIfAbsent(name(), sort) != null) {
            throw new Fault(3, start);
        }
    }

    private String asked(String sort) {
        isOver();
        int start = at;
        String name = name();
        if (!sort.equals(names.get(name))) {
            throw new Fault(3, start);
        }
        return name;
    }

    private void twoPlaces() {
        String first = asked("place");
        word("to");
        isOver();
        int start = at;
        if (asked("place").equals(first)) {
            throw new Fault(3, start);
        }
    }

    // ---- TEST, SUM

    private void opens(int start) {
        open++;
        if (open == 7) {
            throw new Fault(4, start);
        }
    }

    private void test() {
        do {
            do {
                fact();
            } while (takes("and"));
        } while (takes("or"));
    }

    private void fact() {
        isOver();
        int start = at;
        if (takes("not")) {
            opens(start);
            fact();
            open--;
        } else if (takesSign("[")) {
            opens(start);
            test();
            sign("]");
            open--;
        } else if (!takes("all")) {
            sum();
            sign("<>=");
            sum();
        }
    }

    private void sum() {
        do {
            do {
                part();
            } while (takesSign("*/"));
        } while (takesSign("+-"));
    }

    private void part() {
        isOver();
        int start = at;
        if (isAtNumber()) {
            number(0, 9999);
        } else if (takesSign("(")) {
            opens(start);
            sum();
            sign(")");
            open--;
        } else if (takes("min") || takes("max")) {
            isOver();
            start = at;
            sign("(");
            opens(start);
            sum();
            sign(",");
            sum();
            sign(")");
            open--;
        } else {
            String word = word(parts.toArray(new String[0]));
            if (word.equals("closed") || word.equals("drive")) {
                opens(start);
                part();
                open--;
            }
        }
    }
}
