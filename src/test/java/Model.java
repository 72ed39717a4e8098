import java.util.ArrayList;
import java.util.List;
import java.util.Map;
import java.util.HashMap;
import java.util.Random;
import java.util.function.Function;
import java.util.function.IntUnaryOperator;

/** A slow model of the document, by the plainest means: every MINUTE, every subset, every number is tried. */
final class Model {
    /** What the words of a TEST or SUM are worth. */
    static final class Env {
        final Map<String, Integer> words = new HashMap<>();
        IntUnaryOperator closed;
        IntUnaryOperator drive;

        Env put(String word, int value) {
            words.put(word, value);
            return this;
        }
    }

    record Rule(String text, Function<Env, Long> value) {
    }

    record Way(int from, int to, int steps, int gate) {
    }

    final Random random;
    final int miles;
    final List<Integer> gates = new ArrayList<>();
    int places;
    final List<Way> ways = new ArrayList<>();
    final List<int[]> eras = new ArrayList<>();
    final List<Integer> from = new ArrayList<>();
    Rule shuts;
    Rule late;
    Rule sees;
    int pigs;
    String text;

    int day;
    boolean[] up;
    int[] lates;
    int[] at;
    int[] to;
    int[] knows;
    List<int[]> kept = new ArrayList<>();
    List<int[]> seen = new ArrayList<>();
    final List<Object[]> past = new ArrayList<>();
    long seed = 1;

    Model(Random random) {
        this.random = random;
        miles = 5 + random.nextInt(random.nextBoolean() ? 56 : 16);
        List<String> lines = new ArrayList<>();
        int n = random.nextInt(7);
        for (int k = 0; k < n; k++) {
            gates.add(random.nextInt(miles + 1));
            lines.add("gate g" + letters(k) + " at " + gates.get(k));
        }
        places = random.nextInt(8);
        for (int k = 0; k < places; k++) {
            lines.add("place p" + letters(k));
        }
        n = places < 2 ? 0 : random.nextInt(13);
        for (int k = 0; k < n; k++) {
            addWay(lines);
        }
        n = random.nextInt(6);
        for (int k = 0; k < n; k++) {
            int[] era = {1 + random.nextInt(30), 1 + random.nextInt(random.nextBoolean() ? 9 : 2), random.nextInt(100)};
            if (random.nextBoolean()) {
                era[2] = random.nextInt(10);
            }
            eras.add(era);
            lines.add("era e" + letters(k) + " long " + era[0] + " pace " + era[1] + " from " + era[2]);
        }
        n = places < 2 ? 0 : random.nextInt(6);
        at = new int[n];
        to = new int[n];
        for (int k = 0; k < n; k++) {
            at[k] = random.nextInt(places);
            to[k] = (at[k] + 1 + random.nextInt(places - 1)) % places;
            from.add(random.nextInt(random.nextBoolean() ? 100 : 20));
            lines.add("car c" + letters(k) + " at p" + letters(at[k]) + " to p" + letters(to[k])
                    + " from " + from.get(k));
        }
        knows = new int[n];
        up = new boolean[gates.size()];
        lates = new int[eras.size()];
        addRules(lines);
        StringBuilder all = new StringBuilder(blank() + "district " + miles + blank() + ";");
        for (String line : lines) {
            all.append(blank()).append(line).append(blank()).append(";");
        }
        text = all.append(blank()).toString();
    }

    private String letters(int k) {
        return String.valueOf((char) ('a' + k)) + "xyzw".substring(0, k % 5 > 3 ? 4 : k % 5);
    }

    private String blank() {
        return random.nextInt(3) == 0 ? random.nextBoolean() ? " " : "\n " : "";
    }

    private void addWay(List<String> lines) {
        int a = random.nextInt(places);
        int b = (a + 1 + random.nextInt(places - 1)) % places;
        int steps = 1 + random.nextInt(random.nextInt(3) == 0 ? 60 : 8);
        int gate = gates.isEmpty() || random.nextInt(3) == 0 ? -1 : random.nextInt(gates.size());
        ways.add(new Way(a, b, steps, gate));
        lines.add((gate < 0 ? "road" : "lane") + " p" + letters(a) + " to p" + letters(b) + " steps " + steps
                + (gate < 0 ? "" : " over g" + letters(gate)));
    }

    private void addRules(List<String> lines) {
        shuts = new Rule("", e -> e.words.get("ahead") < 3 && e.words.get("behind") < 1 ? 1L : 0L);
        late = new Rule("", e -> (long) e.words.get("late"));
        sees = new Rule("", e -> (long) e.words.get("waits"));
        if (random.nextBoolean()) {
            shuts = test(6, "ahead", "behind", "long", "pace", "minute");
            lines.add(random.nextInt(lines.size() + 1), "shuts " + shuts.text);
        }
        if (random.nextBoolean()) {
            late = sum(6, "late", "long", "pace", "day", "waits");
            lines.add(random.nextInt(lines.size() + 1), "late " + late.text);
        }
        if (random.nextBoolean()) {
            sees = sum(6, "waits", "knows", "day");
            lines.add(random.nextInt(lines.size() + 1), "sees " + sees.text);
        }
        if (random.nextBoolean()) {
            pigs = random.nextInt(101);
            lines.add(random.nextInt(lines.size() + 1), "pigs " + pigs);
        }
    }

    // ---- the language

    Rule test(int open, String... parts) {
        Rule left = both(open, parts);
        while (random.nextInt(4) == 0) {
            Rule a = left;
            Rule b = both(open, parts);
            left = new Rule(a.text + " or " + b.text, e -> a.value.apply(e) != 0 || b.value.apply(e) != 0 ? 1L : 0L);
        }
        return left;
    }

    private Rule both(int open, String... parts) {
        Rule left = fact(open, parts);
        while (random.nextInt(4) == 0) {
            Rule a = left;
            Rule b = fact(open, parts);
            left = new Rule(a.text + " and " + b.text, e -> a.value.apply(e) != 0 && b.value.apply(e) != 0 ? 1L : 0L);
        }
        return left;
    }

    private Rule fact(int open, String... parts) {
        int kind = random.nextInt(12);
        if (kind == 0) {
            return new Rule("all", e -> 1L);
        }
        if (kind <= 2 && open > 0) {
            Rule a = fact(open - 1, parts);
            return new Rule("not " + a.text, e -> a.value.apply(e) == 0 ? 1L : 0L);
        }
        if (kind <= 4 && open > 0) {
            Rule a = test(open - 1, parts);
            return new Rule("[" + blank() + a.text + blank() + "]", a.value);
        }
        Rule a = sum(open, parts);
        Rule b = sum(open, parts);
        String sign = random.nextBoolean() ? "<" : random.nextBoolean() ? ">" : "=";
        return new Rule(a.text + blank() + sign + blank() + b.text, e -> {
            int order = Long.compare(a.value.apply(e), b.value.apply(e));
            return (sign.equals("<") ? order < 0 : sign.equals(">") ? order > 0 : order == 0) ? 1L : 0L;
        });
    }

    Rule sum(int open, String... parts) {
        Rule left = product(open, parts);
        while (random.nextInt(3) == 0) {
            Rule a = left;
            Rule b = product(open, parts);
            boolean plus = random.nextBoolean();
            left = new Rule(a.text + blank() + (plus ? "+" : "-") + blank() + b.text,
                e -> bound(plus ? a.value.apply(e) + b.value.apply(e) : a.value.apply(e) - b.value.apply(e)));
        }
        return left;
    }

    private Rule product(int open, String... parts) {
        Rule left = part(open, parts);
        while (random.nextInt(4) == 0) {
            Rule a = left;
            Rule b = part(open, parts);
            boolean times = random.nextBoolean();
            left = new Rule(a.text + blank() + (times ? "*" : "/") + blank() + b.text, e -> {
                long x = a.value.apply(e);
                long y = b.value.apply(e);
                return times ? bound(x * y) : y == 0 ? 0 : (long) Math.floor((double) x / y);
            });
        }
        return left;
    }

    private Rule part(int open, String... parts) {
        int kind = random.nextInt(10);
        if (kind < 3) {
            int number = random.nextInt(random.nextInt(6) == 0 ? 10000 : 20);
            return new Rule(String.valueOf(number), e -> (long) number);
        }
        if (kind == 3 && open > 0) {
            Rule a = sum(open - 1, parts);
            return new Rule("(" + blank() + a.text + blank() + ")", a.value);
        }
        if (kind == 4 && open > 0) {
            Rule a = sum(open - 1, parts);
            Rule b = sum(open - 1, parts);
            boolean min = random.nextBoolean();
            return new Rule((min ? "min" : "max") + blank() + "(" + a.text + blank() + "," + blank() + b.text + ")",
                e -> min ? Math.min(a.value.apply(e), b.value.apply(e)) : Math.max(a.value.apply(e), b.value.apply(e)));
        }
        String word = parts[random.nextInt(parts.length)];
        if (word.equals("closed") || word.equals("drive")) {
            if (open == 0) {
                return new Rule("7", e -> 7L);
            }
            Rule a = part(open - 1, parts);
            boolean shut = word.equals("closed");
            return new Rule(word + " " + a.text,
                e -> (long) (shut ? e.closed : e.drive).applyAsInt((int) (long) a.value.apply(e)));
        }
        return new Rule(word, e -> (long) e.words.get(word));
    }

    private static long bound(long value) {
        return Math.max(-1000000, Math.min(1000000, value));
    }

    // ---- minutes

    int head(int era, int late, int minute) {
        int[] e = eras.get(era);
        int start = e[2] + late;
        if (minute < start) {
            return -1;
        }
        int head = e[1] * (minute - start);
        return head - e[0] > miles ? -1 : head;
    }

    boolean shutBy(int era, int late, int gate, int minute) {
        int head = head(era, late, minute);
        if (head < 0) {
            return false;
        }
        int[] e = eras.get(era);
        Env env = new Env().put("ahead", gates.get(gate) - head).put("behind", head - e[0] - gates.get(gate))
                .put("long", e[0]).put("pace", e[1]).put("minute", minute);
        return shuts.value.apply(env) != 0;
    }

    boolean closed(int gate, int minute, boolean[] up, int[] lates) {
        if (up[gate]) {
            return false;
        }
        for (int era = 0; era < eras.size(); era++) {
            if (shutBy(era, lates[era], gate, minute)) {
                return true;
            }
        }
        return false;
    }

    boolean[][] table(boolean[] up, int[] lates) {
        boolean[][] shut = new boolean[gates.size()][200];
        for (int gate = 0; gate < gates.size(); gate++) {
            for (int minute = 0; minute < 200; minute++) {
                shut[gate][minute] = closed(gate, minute, up, lates);
            }
        }
        return shut;
    }

    boolean[][] table() {
        return table(up, lates);
    }

    /** By being everywhere at once, MINUTE by MINUTE. */
    int drive(int start, int goal, int minute, boolean[][] shut) {
        boolean[][] there = new boolean[200][places];
        there[minute][start] = true;
        for (int m = minute; m < 200; m++) {
            if (there[m][goal]) {
                return m;
            }
            for (int place = 0; place < places; place++) {
                if (!there[m][place]) {
                    continue;
                }
                if (m + 1 < 200) {
                    there[m + 1][place] = true;
                }
                for (Way way : ways) {
                    boolean open = way.gate < 0 || !shut[way.gate][m];
                    if (open && m + way.steps < 200) {
                        if (way.from == place) {
                            there[m + way.steps][way.to] = true;
                        }
                        if (way.to == place) {
                            there[m + way.steps][way.from] = true;
                        }
                    }
                }
            }
        }
        return -1;
    }

    int waits(int car, boolean[][] shut) {
        int there = drive(at[car], to[car], from.get(car), shut);
        return there < 0 ? -1 : there - drive(at[car], to[car], from.get(car), new boolean[gates.size()][200]);
    }

    int lift(int car, int minute) {
        int best = -1;
        for (int bits = 0; bits < 1 << gates.size(); bits++) {
            boolean[] lifted = up.clone();
            boolean good = true;
            for (int gate = 0; gate < gates.size(); gate++) {
                if ((bits >> gate & 1) == 1) {
                    good &= !lifted[gate];
                    lifted[gate] = true;
                }
            }
            if (good && (best < 0 || Integer.bitCount(bits) < Integer.bitCount(best))) {
                int there = drive(at[car], to[car], from.get(car), table(lifted, lates));
                if (there >= 0 && there <= minute) {
                    best = bits;
                }
            }
        }
        return best;
    }

    int[] leave(int car) {
        int[] best = {-1, -1};
        boolean[][] shut = table();
        for (int minute = 99; minute >= 0; minute--) {
            int there = drive(at[car], to[car], minute, shut);
            if (there >= 0 && (best[0] < 0 || there - minute <= best[1])) {
                best = new int[] {minute, there - minute};
            }
        }
        return best;
    }

    List<int[]> closings(int gate) {
        boolean[] shut = table()[gate];
        List<int[]> rows = new ArrayList<>();
        for (int minute = 0; minute < 200; minute++) {
            if (shut[minute]) {
                if (minute > 0 && shut[minute - 1]) {
                    rows.get(rows.size() - 1)[1] = minute;
                } else {
                    rows.add(new int[] {minute, minute, gates.get(gate)});
                }
            }
        }
        return rows;
    }

    /** As many as the most CLOSINGS of which none can be reached from another: those of one GATE are never two of them. */
    int keepers() {
        List<int[]> all = new ArrayList<>();
        for (int gate = 0; gate < gates.size(); gate++) {
            all.addAll(closings(gate));
        }
        if (all.size() > 40) {
            return -1;
        }
        return apart(all, 0, new ArrayList<>());
    }

    private int apart(List<int[]> all, int k, List<int[]> taken) {
        if (k == all.size()) {
            return taken.size();
        }
        int best = apart(all, k + 1, taken);
        int[] one = all.get(k);
        for (int[] other : taken) {
            if (goes(one, other) || goes(other, one)) {
                return best;
            }
        }
        List<int[]> more = new ArrayList<>(taken);
        more.add(one);
        return Math.max(best, apart(all, k + 1, more));
    }

    private static boolean goes(int[] a, int[] b) {
        return b[0] >= a[1] + 1 && b[0] >= a[1] + 1 + Math.abs(a[2] - b[2]);
    }

    // ---- how late it was

    List<Integer> was(int era) {
        List<Integer> fit = new ArrayList<>();
        for (int late = 0; late < 100; late++) {
            int[] other = lates.clone();
            other[era] = late;
            boolean good = true;
            for (int[] row : seen) {
                good &= closed(row[1], row[0], up, other) == (row[2] == 1);
            }
            if (good) {
                fit.add(late);
            }
        }
        return fit;
    }

    int[] tells(int era) {
        List<Integer> fit = was(era);
        int[] best = {-1, -1, -1};
        int[][] count = new int[200][gates.size()];
        for (int late : fit) {
            int[] other = lates.clone();
            other[era] = late;
            boolean[][] shut = table(up, other);
            for (int minute = 0; minute < 200; minute++) {
                for (int gate = 0; gate < gates.size(); gate++) {
                    count[minute][gate] += shut[gate][minute] ? 1 : 0;
                }
            }
        }
        for (int minute = 199; minute >= 0 && !fit.isEmpty(); minute--) {
            for (int gate = gates.size() - 1; gate >= 0; gate--) {
                int left = Math.max(count[minute][gate], fit.size() - count[minute][gate]);
                if (best[0] < 0 || left <= best[2]) {
                    best = new int[] {minute, gate, left};
                }
            }
        }
        return best;
    }

    // ---- days

    int pass() {
        boolean[][] shut = table();
        int all = 0;
        int towed = 0;
        int[] waited = new int[at.length];
        for (int car = 0; car < at.length; car++) {
            waited[car] = waits(car, shut);
            if (waited[car] < 0) {
                towed++;
            } else {
                all += waited[car];
            }
        }
        for (int car = 0; car < at.length; car++) {
            if (waited[car] >= 0) {
                Env env = new Env().put("waits", waited[car]).put("knows", knows[car]).put("day", day);
                knows[car] = (int) Math.max(0, Math.min(999, knows[car] + sees.value.apply(env)));
                int place = at[car];
                at[car] = to[car];
                to[car] = place;
            }
        }
        for (int era = 0; era < eras.size(); era++) {
            int[] e = eras.get(era);
            Env env = new Env().put("late", lates[era]).put("long", e[0]).put("pace", e[1]).put("day", day)
                    .put("waits", all);
            lates[era] = (int) Math.max(0, Math.min(99, late.value.apply(env)));
        }
        kept.add(new int[] {day, all, towed});
        day++;
        return all;
    }

    int chance(int n) {
        int times = 0;
        for (int k = 0; k < n; k++) {
            if (draw(100) < pigs && !eras.isEmpty()) {
                times++;
                int era = draw(eras.size());
                lates[era] = Math.min(99, lates[era] + draw(20));
            }
            pass();
        }
        return times;
    }

    int draw(int of) {
        seed = (1103515245L * seed + 12345) % (1L << 31);
        return (int) (seed / 64 % of);
    }

    void remember() {
        past.add(save());
        if (past.size() > 20) {
            past.remove(0);
        }
    }

    Object[] save() {
        return new Object[] {day, up.clone(), lates.clone(), at.clone(), to.clone(), knows.clone(), new ArrayList<>(kept)};
    }

    @SuppressWarnings("unchecked")
    void load(Object[] saved) {
        day = (Integer) saved[0];
        up = ((boolean[]) saved[1]).clone();
        lates = ((int[]) saved[2]).clone();
        at = ((int[]) saved[3]).clone();
        to = ((int[]) saved[4]).clone();
        knows = ((int[]) saved[5]).clone();
        kept = new ArrayList<>((List<int[]>) saved[6]);
    }

    int[] image() {
        List<Integer> bytes = new ArrayList<>(List.of(day / 256, day % 256));
        for (boolean flag : up) {
            bytes.add(flag ? 1 : 0);
        }
        for (int late : lates) {
            bytes.add(late);
        }
        for (int car = 0; car < at.length; car++) {
            bytes.addAll(List.of(at[car], to[car], knows[car] / 256, knows[car] % 256));
        }
        int sum = 229;
        for (int octet : bytes) {
            sum = (3 * sum + octet) % 251;
        }
        bytes.add(sum);
        return bytes.stream().mapToInt(Integer::intValue).toArray();
    }

    // ---- questions

    List<Long> values(Rule rule) {
        boolean[][] shut = table();
        List<Long> values = new ArrayList<>();
        for (int c = 0; c < at.length; c++) {
            int car = c;
            Env env = new Env().put("number", car).put("at", at[car]).put("to", to[car]).put("from", from.get(car))
                    .put("knows", knows[car]).put("day", day).put("waits", waits(car, shut));
            env.closed = gate -> gate >= 0 && gate < gates.size() && shut[gate][from.get(car)] ? 1 : 0;
            env.drive = place -> place >= 0 && place < places ? drive(at[car], place, from.get(car), shut) : -1;
            values.add(rule.value.apply(env));
        }
        return values;
    }
}
