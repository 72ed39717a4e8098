/** What the tests share: feeding a text, and telling each answer that is not the one that is due. */
final class Check {
    private static int wrong = 0;
    private static int asked = 0;
    private static String about = "";

    private Check() {
    }

    /** What the answers from now on are about; it is told with each wrong one. */
    static void about(String what) {
        about = what;
    }

    static int asked() {
        return asked;
    }

    static void due(String call, long got, long want) {
        asked++;
        if (got != want) {
            wrong++;
            if (wrong <= 40) {
                System.out.println(about + call + " answered " + got + ", due is " + want);
            }
        }
    }

    static void due(String call, boolean got, boolean want) {
        due(call, got ? 1 : 0, want ? 1 : 0);
    }

    /** Feeds bytes in rows of twenty, and cuts off what fills the last row. */
    static void feed(CenturyGates x, int... bytes) {
        int[] row = new int[5];
        int rows = (bytes.length + 19) / 20;
        for (int r = 0; r < rows; r++) {
            for (int n = 0; n < 5; n++) {
                row[n] = 0;
                for (int k = 0; k < 4; k++) {
                    int at = 20 * r + 4 * n + k;
                    row[n] = row[n] << 8 | (at < bytes.length ? bytes[at] & 255 : ' ');
                }
            }
            due("feed", x.feed(row[0], row[1], row[2], row[3], row[4]), 20L * (r + 1));
        }
        due("end", x.end(bytes.length), true);
    }

    static void feed(CenturyGates x, String text) {
        int[] bytes = new int[text.length()];
        for (int k = 0; k < bytes.length; k++) {
            bytes[k] = text.charAt(k);
        }
        feed(x, bytes);
    }

    static CenturyGates with(String district) {
        CenturyGates x = new CenturyGates();
        tell(x, district);
        return x;
    }

    static void tell(CenturyGates x, String district) {
        feed(x, district);
        int statements = 0;
        for (int k = 0; k < district.length(); k++) {
            statements += district.charAt(k) == ';' ? 1 : 0;
        }
        due("district() of " + district, x.district(), statements);
        due("fault(0) of " + district, x.fault(0), 0);
        due("fault(1) of " + district, x.fault(1), -1);
    }

    /** A DISTRICT with a FAULT: refused, and the FAULT is as told. */
    static void fault(CenturyGates x, String district, int kind, int place) {
        int before = x.status(1);
        feed(x, district);
        due("district() of " + district, x.district(), -1);
        due("fault(0) of " + district, x.fault(0), kind);
        due("fault(1) of " + district, x.fault(1), place);
        due("status(1) behind " + district, x.status(1), before + 1);
        due("fault(2)", x.fault(2), -1);
    }

    /** As fault, on a new object; the place is told by a mark in the text, which is taken out. */
    static void faultAt(String marked, int kind) {
        fault(new CenturyGates(), unmarked(marked), kind, marked.indexOf('^'));
    }

    private static String unmarked(String marked) {
        int place = marked.indexOf('^');
        return marked.substring(0, place) + marked.substring(place + 1);
    }

    static void asks(CenturyGates x, String question, long answer) {
        feed(x, question);
        due("ask() of " + question, x.ask(), answer);
        due("fault(0) of " + question, x.fault(0), 0);
        due("fault(1) of " + question, x.fault(1), -1);
    }

    static void asksWrong(CenturyGates x, String question, int kind, int place) {
        feed(x, question);
        due("ask() of " + question, x.ask(), CenturyGates.NOTHING);
        due("fault(0) of " + question, x.fault(0), kind);
        due("fault(1) of " + question, x.fault(1), place);
    }

    static void asksWrongAt(CenturyGates x, String marked, int kind) {
        asksWrong(x, unmarked(marked), kind, marked.indexOf('^'));
    }

    static void finish() {
        System.out.println(asked + " answers, " + wrong + " of them not as due");
        if (wrong != 0) {
            System.exit(1);
        }
    }
}
