/** Promises 34 to 37, and the IMAGE of section IV, sentence by sentence. */
public final class ImageEdgesTest {
    private static final int[] FAR = {Integer.MIN_VALUE, -200, 1000, Integer.MAX_VALUE};

    /** Two GATES, three PLACES, two ERAS, two CARS: 2 + 2 + 2 + 8 bytes, and the sum. */
    private static final String TWO = "district 9;gate g at 1;gate h at 2;place a;place b;place c;road a to b steps 1;"
            + "era e long 1 pace 1 from 0;era f long 1 pace 1 from 1;car x at a to b from 0;car y at b to c from 0;sees 300;";
    private static final int[] FIRST = {0, 0, 0, 0, 0, 0, 0, 1, 0, 0, 1, 2, 0, 0};

    public static void main(String[] args) {
        images();
        octets();
        taken();
        refused();
        counts();
        Edge.finish(34, 35, 36, 37);
    }

    private static int sum(int[] bytes) {
        int sum = 229;
        for (int octet : bytes) {
            sum = (3 * sum + octet) % 251;
        }
        return sum;
    }

    private static void image(CenturyGates x, int... bytes) {
        Check.due("image()", x.image(), bytes.length + 1);
        for (int k = 0; k < bytes.length; k++) {
            Check.due("octet(" + k + ")", x.octet(k), bytes[k]);
        }
        Check.due("the sum", x.octet(bytes.length), sum(bytes));
        Check.due("behind it", x.octet(bytes.length + 1), -1);
    }

    private static void images() {
        Edge.of(34, "AN IMAGE: DAY (two bytes, the higher first);");
        CenturyGates bare = Check.with("district 5;");
        for (int day : new int[] {0, 1, 255, 256, 257, 998, 999}) {
            Check.due("on(), DAY " + day, ImageTest.on(bare, day / 256, day % 256), true);
            image(bare, day / 256, day % 256);
        }

        Edge.of(34, "for each GATE 1 if it is UP, else 0; for each ERA how late it is; for each CAR where it is, its "
                + "goal, what it knows (two bytes);");
        CenturyGates x = Check.with(TWO);
        image(x, FIRST);
        x.put(1, 1);
        image(x, 0, 0, 0, 1, 0, 0, 0, 1, 0, 0, 1, 2, 0, 0);
        x.put(0, 1);
        x.hold(0, 99);
        x.hold(1, 1);
        image(x, 0, 0, 1, 1, 99, 1, 0, 1, 0, 0, 1, 2, 0, 0);
        x.days(1);
        image(x, 0, 1, 1, 1, 99, 1, 1, 0, 1, 44, 1, 2, 0, 0);
        x.days(3);
        image(x, 0, 4, 1, 1, 99, 1, 0, 1, 3, 231, 1, 2, 0, 0);
        CenturyGates knows = Check.with(TWO.replace("300", "1"));
        for (int n : new int[] {254, 255, 256}) {
            Check.due("on()", ImageTest.on(knows, 0, 0, 0, 0, 0, 0, 0, 1, n / 256, n % 256, 1, 2, 0, 0), true);
            knows.days(1);
            image(knows, 0, 1, 0, 0, 0, 0, 1, 0, (n + 1) / 256, (n + 1) % 256, 1, 2, 0, 0);
        }

        Edge.of(34, "last a byte: all ahead from 229 on, c = (3 c + it) mod 251.");
        // 229, 687 mod 251 = 185, 555 mod 251 = 53
        CenturyGates none = new CenturyGates();
        none.image();
        Check.due("octet(2)", none.octet(2), 53);
        // a DAY of 198: 555 + 198 = 753 = 3 x 251; one of 197: 250
        Check.due("on()", ImageTest.on(bare, 0, 198), true);
        bare.image();
        Check.due("octet(2), 0", bare.octet(2), 0);
        Check.due("on()", ImageTest.on(bare, 0, 197), true);
        bare.image();
        Check.due("octet(2), 250", bare.octet(2), 250);

        Edge.of(34, "AN IMAGE is written: how many bytes.");
        Check.due("without a district", new CenturyGates().image(), 3);
        Check.due("of nothing", Check.with("district 5;").image(), 3);
        Check.due("of one GATE", Check.with("district 5;gate g at 0;").image(), 4);
        Check.due("of one ERA", Check.with("district 5;era e long 1 pace 1 from 0;").image(), 4);
        Check.due("of one CAR", Check.with("district 5;place a;place b;car c at a to b from 0;").image(), 7);
        Check.due("of all that can be", Check.with(TableEdgesTest.FULL).image(), 2 + 6 + 5 + 20 + 1);
        Check.due("it changes nothing", x.has(10) * 10 + x.status(5), 60);
    }

    private static void octets() {
        Edge.of(35, "Byte k of the latest image(); NONE when there is none such.");
        CenturyGates x = Check.with(TWO);
        Check.due("ahead of any", x.octet(0), -1);
        x.image();
        x.put(0, 1);
        Check.due("octet(2), of the latest image()", x.octet(2), 0);
        x.image();
        Check.due("octet(2)", x.octet(2), 1);
        Check.due("octet(-1)", x.octet(-1), -1);
        Check.due("octet(14)", x.octet(14) >= 0, true);
        Check.due("octet(15)", x.octet(15), -1);
        for (int far : FAR) {
            Check.due("octet(" + far + ")", x.octet(far), -1);
        }
        Check.tell(x, "district 5;");
        Check.due("octet(2), of the latest image()", x.octet(2), 1);
        x.image();
        Check.due("octet(2), of a shorter one", x.octet(2), 53);
        Check.due("octet(3), of a shorter one", x.octet(3), -1);
        CenturyGates full = Check.with(TableEdgesTest.FULL);
        full.image();
        Check.due("octet(33)", full.octet(33) >= 0, true);
        Check.due("octet(34)", full.octet(34), -1);
    }

    private static void taken() {
        Edge.of(36, "The tape (it goes) is AN IMAGE of this DISTRICT: true, all is as it tells, nothing is KEPT or can be "
                + "undone;");
        CenturyGates x = Check.with(TWO);
        x.put(0, 1);
        x.days(2);
        Check.feed(x, 5, 0, 0);
        x.see();
        int[] bytes = {3, 231, 0, 1, 99, 0, 2, 0, 3, 231, 0, 2, 0, 255};
        Check.due("on()", ImageTest.on(x, bytes), true);
        Check.due("the tape goes", x.end(1), false);
        image(x, bytes);
        int[] has = {9, 2, 3, 1, 2, 2, 999, 1, 0, 1, 0};
        for (int what = 0; what < has.length; what++) {
            Check.due("has(" + what + ")", x.has(what), has[what]);
        }
        Check.due("kept(0, 0)", x.kept(0, 0), -1);
        Check.due("undo()", x.undo(), false);
        Check.due("car(0, 3)", x.car(0, 3), 999);
        Check.due("car(1, 3)", x.car(1, 3), 255);
        Check.due("gate(0, 1)", x.gate(0, 1), 0);
        Check.due("gate(1, 1)", x.gate(1, 1), 1);
        Check.due("on() of its own image", own(x), true);
        Check.due("on() of all at first", ImageTest.on(x, FIRST), true);
        image(x, FIRST);
        Check.due("days(1) from there", x.days(1), 0);
        Check.due("kept(0, 0)", x.kept(0, 0), 0);
        Check.due("has(8), has(10)", x.has(8) * 10 + x.has(10), 11);
        Check.due("of all that can be", own(Check.with(TableEdgesTest.FULL)), true);
        // the seed is no part of it
        CenturyGates y = Check.with("district 5;era e long 1 pace 1 from 0;pigs 92;");
        y.seed(0);
        Check.due("on()", ImageTest.on(y, 0, 0, 0), true);
        Check.due("the seed stays", y.chance(1), 0);
    }

    private static boolean own(CenturyGates x) {
        int[] bytes = new int[x.image()];
        for (int k = 0; k < bytes.length; k++) {
            bytes[k] = x.octet(k);
        }
        Check.feed(x, bytes);
        return x.on();
    }

    /** One byte of the image of all at first is another one. */
    private static void changed(CenturyGates x, boolean want, int... changes) {
        int[] bytes = FIRST.clone();
        for (int k = 0; k < changes.length; k += 2) {
            bytes[changes[k]] = changes[k + 1];
        }
        offer(x, want, bytes, sum(bytes));
    }

    private static void offer(CenturyGates x, boolean want, int[] bytes, int sum) {
        int[] all = new int[bytes.length + 1];
        System.arraycopy(bytes, 0, all, 0, bytes.length);
        all[bytes.length] = sum;
        Check.feed(x, all);
        int refused = x.status(5);
        Check.due("on()", x.on(), want);
        Check.due("status(5)", x.status(5), want ? refused : refused + 1);
        Check.due("the tape goes", x.end(1), false);
    }

    private static void refused() {
        CenturyGates x = Check.with(TWO);
        Edge.of(36, "(DAY, what is known 999, late 99 at most;");
        changed(x, true, 0, 3, 1, 231);
        changed(x, false, 0, 3, 1, 232);
        changed(x, false, 0, 4);
        changed(x, false, 0, 255, 1, 255);
        changed(x, true, 8, 3, 9, 231);
        changed(x, false, 8, 3, 9, 232);
        changed(x, false, 8, 255);
        changed(x, true, 12, 3, 13, 231);
        changed(x, false, 12, 3, 13, 232);
        changed(x, false, 12, 4);
        changed(x, true, 4, 99);
        changed(x, false, 4, 100);
        changed(x, false, 4, 255);
        changed(x, true, 5, 99);
        changed(x, false, 5, 100);

        Edge.of(36, "PLACES that there are, unlike ones of a CAR;");
        changed(x, true, 6, 2);
        changed(x, false, 6, 3);
        changed(x, false, 6, 255);
        changed(x, true, 7, 2);
        changed(x, false, 7, 3);
        changed(x, false, 7, 255);
        changed(x, false, 6, 1);
        changed(x, false, 7, 0);
        changed(x, true, 10, 0);
        changed(x, false, 10, 3);
        changed(x, false, 10, 2);
        changed(x, false, 11, 1);
        changed(x, false, 11, 3);
        changed(x, true, 6, 2, 7, 1, 10, 2, 11, 1);

        Edge.of(36, "flags 0, 1)");
        changed(x, true, 2, 1);
        changed(x, false, 2, 2);
        changed(x, false, 2, 255);
        changed(x, true, 3, 1);
        changed(x, false, 3, 2);
        changed(x, false, 3, 3);

        Edge.of(36, "false, refused (5), when it is none");
        offer(x, true, FIRST, sum(FIRST));
        offer(x, false, FIRST, (sum(FIRST) + 1) % 251);
        offer(x, false, FIRST, (sum(FIRST) + 250) % 251);
        // 0 and 251 are alike but for the modulus
        CenturyGates bare = Check.with("district 5;");
        offer(bare, true, new int[] {0, 198}, 0);
        offer(bare, false, new int[] {0, 198}, 251);
        int[] fewer = java.util.Arrays.copyOf(FIRST, 13);
        int[] more = java.util.Arrays.copyOf(FIRST, 15);
        offer(x, false, fewer, sum(fewer));
        offer(x, false, more, sum(more));
        offer(x, false, new int[] {0, 0}, 53);
        offer(bare, false, new int[] {0}, 185);
        offer(bare, false, new int[] {}, 229);
        offer(bare, false, new int[1599], 0);
        Check.feed(x);
        Check.due("on() of nothing", x.on(), false);
        offer(Check.with("district 9;gate g at 1;"), false, FIRST, sum(FIRST));

        Edge.of(36, "or without a district, all staying.");
        CenturyGates none = new CenturyGates();
        offer(none, false, new int[] {0, 0}, 53);
        offer(none, false, new int[] {0, 7}, 60);
        Check.due("has(6)", none.has(6), 0);
        CenturyGates y = Check.with(TWO);
        y.put(0, 1);
        y.hold(0, 5);
        y.days(2);
        changed(y, false, 0, 4, 3, 1, 5, 9, 6, 2, 8, 1);
        changed(y, false, 3, 1, 5, 9, 6, 2, 8, 1, 11, 1);
        image(y, 0, 2, 1, 0, 5, 0, 0, 1, 2, 88, 1, 2, 0, 0);
        Check.due("has(8), has(10)", y.has(8) * 10 + y.has(10), 23);
        Check.due("kept(1, 0)", y.kept(1, 0), 1);
        Check.due("undo()", y.undo(), true);
    }

    private static void counts() {
        Edge.of(37, "How many were refused: 0 feed(), end(); 1 district(), see(); 2 put(), hold(), send(); "
                + "3 days(), chance(); 4 undo(); 5 seed(), on().");
        CenturyGates x = new CenturyGates();
        status(x, 0, 0, 0, 0, 0, 0);
        x.end(1);
        status(x, 1, 0, 0, 0, 0, 0);
        for (int n = 0; n < 81; n++) {
            x.feed(0, 0, 0, 0, 0);
        }
        status(x, 2, 0, 0, 0, 0, 0);
        x.district();
        status(x, 2, 1, 0, 0, 0, 0);
        x.see();
        status(x, 2, 2, 0, 0, 0, 0);
        x.put(0, 1);
        status(x, 2, 2, 1, 0, 0, 0);
        x.hold(0, 1);
        status(x, 2, 2, 2, 0, 0, 0);
        x.send(0, 1);
        status(x, 2, 2, 3, 0, 0, 0);
        x.days(1);
        status(x, 2, 2, 3, 1, 0, 0);
        x.chance(1);
        status(x, 2, 2, 3, 2, 0, 0);
        x.undo();
        status(x, 2, 2, 3, 2, 1, 0);
        x.seed(-1);
        status(x, 2, 2, 3, 2, 1, 1);
        x.on();
        status(x, 2, 2, 3, 2, 1, 2);
        x.ask();
        x.keepers();
        x.closed(9, 9);
        x.later(9, 9, 9);
        status(x, 2, 2, 3, 2, 1, 2);
        Check.tell(x, TWO);
        x.put(0, 1);
        x.undo();
        status(x, 2, 2, 3, 2, 1, 2);

        Edge.of(37, "NONE for others.");
        Check.due("status(-1)", x.status(-1), -1);
        Check.due("status(6)", x.status(6), -1);
        Check.due("status(6) of a new one", new CenturyGates().status(6), -1);
        for (int far : FAR) {
            Check.due("status(" + far + ")", x.status(far), -1);
        }
    }

    private static void status(CenturyGates x, int... want) {
        for (int what = 0; what < want.length; what++) {
            Check.due("status(" + what + ")", x.status(what), want[what]);
        }
    }
}
