/** Promises 34 to 37: IMAGES, and what was refused. */
public final class ImageTest {
    /** Feeds the bytes with the sum behind them, and takes them on. */
    static boolean on(CenturyGates x, int... bytes) {
        int[] all = new int[bytes.length + 1];
        System.arraycopy(bytes, 0, all, 0, bytes.length);
        all[bytes.length] = sum(bytes);
        Check.feed(x, all);
        return x.on();
    }

    private static int sum(int[] bytes) {
        int sum = 229;
        for (int octet : bytes) {
            sum = (3 * sum + octet) % 251;
        }
        return sum;
    }

    public static void main(String[] args) {
        images();
        taken();
        refused();
        without();
        status();
        Check.finish();
    }

    private static void image(CenturyGates x, int... bytes) {
        Check.due("image()", x.image(), bytes.length + 1);
        for (int k = 0; k < bytes.length; k++) {
            Check.due("octet(" + k + ")", x.octet(k), bytes[k]);
        }
        Check.due("octet, the sum", x.octet(bytes.length), sum(bytes));
        Check.due("octet behind", x.octet(bytes.length + 1), -1);
        Check.due("octet(-1)", x.octet(-1), -1);
    }

    private static void images() {
        image(new CenturyGates(), 0, 0);
        CenturyGates x = Check.with(Fens.FENS);
        image(x, 0, 0, 0, 0, 0, 0, 0, 1, 0, 0, 1, 2, 0, 0);
        x.put(1, 1);
        x.hold(0, 99);
        Check.due("octet(3), the latest image", x.octet(3), 0);
        image(x, 0, 0, 0, 1, 99, 0, 0, 1, 0, 0, 1, 2, 0, 0);
        x.days(1);
        image(x, 0, 1, 0, 1, x.era(0, 3), x.era(1, 3), 1, 0, 0, x.car(0, 3), 2, 1, 0, x.car(1, 3));
        CenturyGates y = Check.with("district 5;place a;place b;road a to b steps 1;car c at a to b from 0;sees 700;");
        y.days(1);
        image(y, 0, 1, 1, 0, 2, 188);
        for (int n = 0; n < 8; n++) {
            y.days(40);
        }
        image(y, 321 / 256, 321 % 256, 1, 0, 3, 231);
        Check.tell(y, "district 5;");
        Check.due("octet(5), the latest image stays", y.octet(5), 231);
        image(y, 0, 0);
        Check.due("octet(5)", y.octet(5), -1);
        StringBuilder full = new StringBuilder("district 9;place p;place q;");
        for (char c = 'a'; c <= 'f'; c++) {
            full.append("gate g").append(c).append(" at 1;");
        }
        for (char c = 'a'; c <= 'e'; c++) {
            full.append("era e").append(c).append(" long 1 pace 1 from 1;car c").append(c).append(" at p to q from 1;");
        }
        CenturyGates z = Check.with(full.toString());
        Check.due("the longest image", z.image(), 34);
        Check.due("its last byte", z.octet(33) >= 0, true);
        Check.due("behind it", z.octet(34), -1);
    }

    private static void taken() {
        CenturyGates x = Check.with(Fens.FENS);
        x.put(0, 1);
        x.days(5);
        Check.feed(x, 1, 0, 1);
        x.see();
        Check.due("on()", on(x, 3, 231, 0, 1, 99, 1, 2, 0, 3, 231, 0, 2, 1, 0), true);
        Check.due("has(6)", x.has(6), 999);
        Check.due("gate(0, 1)", x.gate(0, 1), 0);
        Check.due("gate(1, 1)", x.gate(1, 1), 1);
        Check.due("era(0, 3)", x.era(0, 3), 99);
        Check.due("era(1, 3)", x.era(1, 3), 1);
        Check.due("car(0, 0)", x.car(0, 0), 2);
        Check.due("car(0, 1)", x.car(0, 1), 0);
        Check.due("car(0, 3)", x.car(0, 3), 999);
        Check.due("car(1, 3)", x.car(1, 3), 256);
        Check.due("nothing is kept", x.has(8), 0);
        Check.due("nothing can be undone", x.has(10), 0);
        Check.due("undo()", x.undo(), false);
        Check.due("what is seen stays", x.has(9), 1);
        image(x, 3, 231, 0, 1, 99, 1, 2, 0, 3, 231, 0, 2, 1, 0);
        Check.due("on() of all at first", on(x, 0, 0, 0, 0, 0, 0, 0, 1, 0, 0, 1, 2, 0, 0), true);
        Check.due("days(3) as from the first on", x.days(3), Check.with(Fens.FENS).days(3));
        CenturyGates bare = Check.with("district 5;");
        Check.due("on() of nothing but a day", on(bare, 0, 7), true);
        Check.due("has(6)", bare.has(6), 7);
        Check.due("kept", bare.kept(0, 0), -1);
        bare.days(1);
        Check.due("kept(0, 0)", bare.kept(0, 0), 7);
    }

    private static void refused() {
        CenturyGates x = Check.with(Fens.FENS);
        x.put(0, 1);
        x.days(2);
        x.image();
        int[] before = new int[15];
        for (int k = 0; k < 15; k++) {
            before[k] = x.octet(k);
        }
        int[] good = {0, 0, 0, 0, 0, 0, 0, 1, 0, 0, 1, 2, 0, 0};
        int[][] bad = {
            {0, 3}, {0, 4}, {1, -1}, {2, 2}, {3, 255}, {4, 100}, {5, 255}, {6, 3}, {6, 1}, {7, 3}, {7, 0}, {8, 4},
            {10, 2}, {10, 255}, {11, 1}, {12, 255},
        };
        int times = 0;
        for (int[] change : bad) {
            int[] bytes = good.clone();
            if (change[0] == 0) {
                bytes[0] = change[1];
                bytes[1] = change[1] == 3 ? 232 : 0;
            } else if (change[1] >= 0) {
                bytes[change[0]] = change[1];
            } else {
                continue;
            }
            Check.due("on() of byte " + change[0] + " being " + change[1], on(x, bytes), false);
            times++;
        }
        int[] knows = good.clone();
        knows[8] = 3;
        knows[9] = 232;
        Check.due("on() of 1000 known", on(x, knows), false);
        Check.due("on() of too few", on(x, 0, 0, 0, 0, 0, 0, 0, 1, 0, 0, 1, 2, 0), false);
        Check.due("on() of too many", on(x, 0, 0, 0, 0, 0, 0, 0, 1, 0, 0, 1, 2, 0, 0, 0), false);
        Check.feed(x);
        Check.due("on() of nothing", x.on(), false);
        int[] wrongSum = new int[15];
        System.arraycopy(good, 0, wrongSum, 0, 14);
        wrongSum[14] = (sum(good) + 1) % 251;
        Check.feed(x, wrongSum);
        Check.due("on() of a wrong sum", x.on(), false);
        times += 5;
        Check.due("status(5)", x.status(5), times);
        Check.due("image()", x.image(), 15);
        for (int k = 0; k < 15; k++) {
            Check.due("octet(" + k + ") stays", x.octet(k), before[k]);
        }
        Check.due("has(8) stays", x.has(8), 2);
        Check.due("has(10) stays", x.has(10), 2);
        Check.due("on() of a good one", on(x, good), true);
        Check.due("status(5)", x.status(5), times);
    }

    private static void without() {
        CenturyGates x = new CenturyGates();
        Check.due("on() without a district", on(x, 0, 0), false);
        Check.due("status(5)", x.status(5), 1);
    }

    private static void status() {
        CenturyGates x = new CenturyGates();
        Check.due("status(6)", x.status(6), -1);
        Check.due("status(-1)", x.status(-1), -1);
        Check.due("status(greatest)", x.status(Integer.MAX_VALUE), -1);
        x.end(1);
        x.district();
        x.district();
        x.see();
        x.put(0, 1);
        x.hold(0, 1);
        x.send(0, 1);
        x.send(0, 1);
        for (int n = 0; n < 3; n++) {
            x.days(1);
        }
        x.chance(1);
        x.chance(1);
        for (int n = 0; n < 6; n++) {
            x.undo();
        }
        for (int n = 0; n < 6; n++) {
            x.on();
        }
        x.seed(-5);
        int[] want = {1, 3, 4, 5, 6, 7};
        for (int what = 0; what < want.length; what++) {
            Check.due("status(" + what + ")", x.status(what), want[what]);
        }
        Check.tell(x, "district 5;");
        for (int what = 0; what < want.length; what++) {
            Check.due("status(" + what + ") stays", x.status(what), want[what]);
        }
    }
}
