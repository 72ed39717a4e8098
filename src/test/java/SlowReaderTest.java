import java.util.ArrayList;
import java.util.List;
import java.util.Random;

/** Promises 4, 5, 33: texts drawn by a fixed seed and then spoilt, each FAULT against that of the slow reader. */
public final class SlowReaderTest {
    private static final int TEXTS = 6000;
    private static final String SIGNS = "abgpz0159 ;()[]+-*/<>=,\n\t!A\u00ff";
    private static final String[] PARTS = {"number", "at", "to", "from", "knows", "day", "waits", "closed", "drive"};
    private static final String[] KINDS = {"first", "last", "often", "total", "most", "least"};
    private static final int[] COUNTS = new int[6];

    public static void main(String[] args) {
        int texts = args.length > 0 ? Integer.parseInt(args[0]) : TEXTS;
        int first = args.length > 1 ? Integer.parseInt(args[1]) : 0;
        for (int n = first; n < first + texts; n++) {
            district(new Random(n));
            question(new Random(n));
        }
        for (int kind = 0; kind < COUNTS.length; kind++) {
            Check.due("texts with FAULT " + kind + ", some at least", COUNTS[kind] >= texts / 200, true);
        }
        Check.finish();
    }

    private static void district(Random random) {
        String good = new Model(random).text;
        List<String> pieces = pieces(crowded(random, good));
        String text = spoilt(random, pieces);
        int statements = -1;
        SlowReader.Fault fault = null;
        try {
            statements = new SlowReader(text).district();
        } catch (SlowReader.Fault found) {
            fault = found;
        }
        CenturyGates x = new CenturyGates();
        Check.feed(x, text);
        Check.due("district() of " + text, x.district(), statements);
        told(x, text, fault);
        Check.due("status(1)", x.status(1), fault == null ? 0 : 1);
    }

    private static void question(Random random) {
        int kind = random.nextInt(KINDS.length);
        Model model = new Model(random);
        Model.Rule rule = kind < 3 ? model.test(8, PARTS) : model.sum(8, PARTS);
        String text = spoilt(random, pieces(KINDS[kind] + " " + rule.text()));
        SlowReader.Fault fault = null;
        try {
            new SlowReader(text).question();
        } catch (SlowReader.Fault found) {
            fault = found;
        }
        CenturyGates x = Check.with("district 9;place p;place q;car c at p to q from 5;");
        Check.feed(x, text);
        Check.due("ask() of " + text + " is NOTHING", x.ask() == CenturyGates.NOTHING, fault != null);
        told(x, text, fault);
    }

    private static void told(CenturyGates x, String text, SlowReader.Fault fault) {
        Check.due("fault(0) of " + text, x.fault(0), fault == null ? 0 : fault.kind);
        Check.due("fault(1) of " + text, x.fault(1), fault == null ? -1 : fault.place);
        COUNTS[fault == null ? 0 : fault.kind]++;
    }

    /** Now and then with STATEMENTS told twice, or with very many. */
    private static String crowded(Random random, String good) {
        StringBuilder text = new StringBuilder(good);
        if (random.nextInt(4) == 0) {
            String[] statements = good.split(";");
            for (int n = random.nextInt(6); n >= 0; n--) {
                text.append(statements[random.nextInt(statements.length)]).append(";");
            }
        }
        if (random.nextInt(8) == 0) {
            text.append("pigs 1;".repeat(40 + random.nextInt(42)));
        }
        return text.toString();
    }

    /** Words, numbers, and every other byte for itself. */
    private static List<String> pieces(String text) {
        List<String> pieces = new ArrayList<>();
        int start = 0;
        for (int k = 1; k <= text.length(); k++) {
            boolean same = k < text.length() && sort(text.charAt(k)) == sort(text.charAt(k - 1)) && sort(text.charAt(k)) > 0;
            if (!same) {
                pieces.add(text.substring(start, k));
                start = k;
            }
        }
        return pieces;
    }

    private static int sort(char sign) {
        return sign >= 'a' && sign <= 'z' ? 1 : sign >= '0' && sign <= '9' ? 2 : 0;
    }

    private static String spoilt(Random random, List<String> pieces) {
        int times = random.nextInt(4);
        for (int n = 0; n < times && !pieces.isEmpty(); n++) {
            spoil(random, pieces, random.nextInt(pieces.size()));
        }
        String text = String.join("", pieces);
        text = random.nextInt(10) == 0 ? text.substring(0, random.nextInt(text.length() + 1)) : text;
        return text.length() > 1600 ? text.substring(0, 1600) : text;
    }

    private static void spoil(Random random, List<String> pieces, int k) {
        String piece = pieces.get(k);
        switch (random.nextInt(8)) {
            case 0: pieces.remove(k); break;
            case 1: pieces.add(k, pieces.get(random.nextInt(pieces.size()))); break;
            case 2: pieces.set(k, pieces.get(random.nextInt(pieces.size()))); break;
            case 3: pieces.set(k, piece + SIGNS.charAt(random.nextInt(SIGNS.length()))); break;
            case 4: pieces.set(k, piece.substring(1)); break;
            case 5: pieces.set(k, sort(piece.charAt(0)) == 2 ? String.valueOf(random.nextInt(12000)) : piece + " not "); break;
            case 6: pieces.set(k, SlowReader.OWN.get(random.nextInt(SlowReader.OWN.size()))); break;
            default: pieces.set(k, piece + "(".repeat(random.nextInt(8))); break;
        }
        pieces.removeIf(String::isEmpty);
    }
}
