/** Promises 1 to 3, sentence by sentence. */
public final class TapeEdgesTest {
    /** Twenty bytes: two STATEMENTS. */
    private static final int[] TWENTY = {0x64697374, 0x72696374, 0x2036303b, 0x70696773, 0x2039393b};

    public static void main(String[] args) {
        newOnes();
        feeds();
        ends();
        Edge.finish(1, 2, 3);
    }

    private static int feedTwenty(CenturyGates x) {
        return x.feed(TWENTY[0], TWENTY[1], TWENTY[2], TWENTY[3], TWENTY[4]);
    }

    private static void newOnes() {
        Edge.of(1, "`NONE = -1`: There is none; it is refused.");
        Check.due("NONE", CenturyGates.NONE, -1);
        Edge.of(1, "`NOTHING = -1000000000000000L`: Told where a number below 0 may be one.");
        Check.due("NOTHING", CenturyGates.NOTHING, -1000000000000000L);
        Edge.of(1, "No district, no gates.");
        CenturyGates x = new CenturyGates();
        for (int what = 0; what <= 10; what++) {
            Check.due("has(" + what + ")", x.has(what), 0);
        }
        Check.due("gate(0, 0)", x.gate(0, 0), -1);
        Check.due("keepers()", x.keepers(), -1);
        Check.due("days(1)", x.days(1), -1);
        Check.due("two new ones do not share", feedTwenty(new CenturyGates()), 20);
        Check.due("two new ones do not share", feedTwenty(x), 20);
    }

    private static void feeds() {
        Edge.of(2, "Twenty bytes come behind those on the tape, of each number the highest first");
        CenturyGates x = new CenturyGates();
        Check.due("feed", feedTwenty(x), 20);
        Check.due("district()", x.district(), 2);
        Check.due("has(0)", x.has(0), 60);
        Check.feed(x, "district 7;");
        Check.due("feed", x.feed(0x67617465, 0x20672061, 0x7420333b, 0x20202020, 0x20202020), 31);
        Check.due("district()", x.district(), 2);
        Check.due("gate(0, 0)", x.gate(0, 0), 3);
        // the highest byte is 199, so that the number is below 0
        Check.due("feed", x.feed(0xC7000100, 0, 0, 0, 0), 20);
        Check.due("end(3)", x.end(3), true);
        Check.due("see()", x.see(), 1);

        Edge.of(2, "how many there are");
        CenturyGates y = new CenturyGates();
        Check.due("feed", feedTwenty(y), 20);
        Check.due("feed", feedTwenty(y), 40);
        y.end(3);
        Check.due("feed", feedTwenty(y), 23);

        Edge.of(2, "NONE, refused (0), if there would be more than 1600.");
        CenturyGates full = new CenturyGates();
        for (int n = 1; n <= 79; n++) {
            Check.due("feed", full.feed(0x20202020, 0x20202020, 0x20202020, 0x20202020, 0x20202020), 20L * n);
        }
        Check.due("feed, 1600", feedTwenty(full), 1600);
        Check.due("status(0)", full.status(0), 0);
        Check.due("feed, 1620", full.feed(0, 0, 0, 0, 0), -1);
        Check.due("status(0)", full.status(0), 1);
        Check.due("nothing of it came", full.district(), 2);
        for (int n = 1; n <= 80; n++) {
            full.feed(0, 0, 0, 0, 0);
        }
        full.end(1581);
        Check.due("feed, 1601", full.feed(0, 0, 0, 0, 0), -1);
        Check.due("status(0)", full.status(0), 2);
        full.end(1580);
        Check.due("feed, 1600", full.feed(0, 0, 0, 0, 0), 1600);
        Check.due("status(0)", full.status(0), 2);
    }

    private static void ends() {
        Edge.of(3, "The tape has its first n bytes alone: true");
        CenturyGates x = new CenturyGates();
        feedTwenty(x);
        Check.due("end(20), as many as it has", x.end(20), true);
        Check.due("end(12)", x.end(12), true);
        Check.due("district()", x.district(), 1);
        feedTwenty(x);
        Check.due("end(12)", x.end(12), true);
        feedTwenty(x);
        Check.due("district() of what came behind", x.district(), -1);
        Check.due("its fault is behind the first 12", x.fault(1), 12);
        feedTwenty(x);
        Check.due("end(0)", x.end(0), true);
        Check.due("feed", feedTwenty(x), 20);
        Check.due("status(0)", x.status(0), 0);

        Edge.of(3, "false, refused (0), if it has not so many");
        CenturyGates y = new CenturyGates();
        Check.due("end(1) of nothing", y.end(1), false);
        Check.due("end(0) of nothing", y.end(0), true);
        feedTwenty(y);
        Check.due("end(21)", y.end(21), false);
        Check.due("end(greatest)", y.end(Integer.MAX_VALUE), false);
        Check.due("status(0)", y.status(0), 3);
        Check.due("end(12)", y.end(12), true);
        Check.due("end(13) of what it had", y.end(13), false);
        Check.due("status(0)", y.status(0), 4);
        Check.due("the tape stays", y.district(), 1);

        Edge.of(3, "or n is below 0");
        CenturyGates z = new CenturyGates();
        Check.due("end(-1) of nothing", z.end(-1), false);
        feedTwenty(z);
        Check.due("end(-1)", z.end(-1), false);
        Check.due("end(least)", z.end(Integer.MIN_VALUE), false);
        Check.due("status(0)", z.status(0), 3);
        Check.due("the tape stays", z.district(), 2);
    }
}
