/** Promises 1 to 3, and 37 for what feed() and end() refuse. */
public final class TapeTest {
    public static void main(String[] args) {
        newObject();
        bytesComeHighestFirst();
        theTapeIsFull();
        theTapeIsCut();
        theTapeGoes();
        Check.finish();
    }

    private static void newObject() {
        CenturyGates x = new CenturyGates();
        for (int what = 0; what <= 10; what++) {
            Check.due("has(" + what + ")", x.has(what), 0);
        }
        Check.due("fault(0)", x.fault(0), 0);
        Check.due("fault(1)", x.fault(1), -1);
        for (int what = 0; what <= 5; what++) {
            Check.due("status(" + what + ")", x.status(what), 0);
        }
        Check.due("octet(0)", x.octet(0), -1);
        Check.due("keepers()", x.keepers(), -1);
        Check.due("letter", x.letter(1, 0, 0), -1);
        Check.due("tells", x.tells(0, 0), -1);
        Check.due("late", x.late(0, 0), -1);
        Check.due("NONE", CenturyGates.NONE, -1);
        Check.due("NOTHING", CenturyGates.NOTHING, -1000000000000000L);
    }

    private static void bytesComeHighestFirst() {
        CenturyGates x = Check.with("district 9;gate g at 1;");
        Check.due("feed", x.feed(0x07000105, 0x00002020, 0, 0, 0), 20);
        Check.due("end", x.end(6), true);
        Check.due("see", x.see(), 2);
        Check.due("feed", x.feed(0x07010000, 0, 0, 0, 0), 20);
        Check.due("end", x.end(3), true);
        Check.due("see, no such gate", x.see(), -1);
        Check.due("feed", x.feed(0xC7000120, 0, 0, 0, 0), 20);
        Check.due("end", x.end(3), true);
        Check.due("see, a byte above 127", x.see(), 1);
    }

    private static void theTapeIsFull() {
        CenturyGates x = new CenturyGates();
        for (int n = 1; n <= 80; n++) {
            Check.due("feed", x.feed(0, 0, 0, 0, 0), 20L * n);
        }
        Check.due("feed beyond 1600", x.feed(0, 0, 0, 0, 0), -1);
        Check.due("status(0)", x.status(0), 1);
        Check.due("end(1581)", x.end(1581), true);
        Check.due("feed beyond 1600", x.feed(0, 0, 0, 0, 0), -1);
        Check.due("status(0)", x.status(0), 2);
        Check.due("end(1580)", x.end(1580), true);
        Check.due("feed", x.feed(0, 0, 0, 0, 0), 1600);
        Check.due("a refused feed adds nothing", x.end(1601), false);
        Check.due("status(0)", x.status(0), 3);
    }

    private static void theTapeIsCut() {
        CenturyGates x = new CenturyGates();
        Check.due("end(0)", x.end(0), true);
        Check.due("end(1)", x.end(1), false);
        Check.due("end(-1)", x.end(-1), false);
        Check.due("end(least)", x.end(Integer.MIN_VALUE), false);
        Check.due("end(greatest)", x.end(Integer.MAX_VALUE), false);
        Check.due("status(0)", x.status(0), 4);
        Check.due("feed", x.feed(0, 0, 0, 0, 0), 20);
        Check.due("end(20)", x.end(20), true);
        Check.due("end(7)", x.end(7), true);
        Check.due("end(8)", x.end(8), false);
        Check.due("feed comes behind", x.feed(0, 0, 0, 0, 0), 27);
    }

    private static void theTapeGoes() {
        CenturyGates x = new CenturyGates();
        Check.feed(x, "often all");
        x.ask();
        Check.due("feed behind ask() without a district", x.feed(0, 0, 0, 0, 0), 20);
        x.district();
        Check.due("feed behind a fault", x.feed(0, 0, 0, 0, 0), 20);
        x.see();
        Check.due("feed behind see()", x.feed(0, 0, 0, 0, 0), 20);
        x.on();
        Check.due("feed behind on()", x.feed(0, 0, 0, 0, 0), 20);
        x.end(0);
        Check.tell(x, "district 9;");
        Check.due("feed behind district()", x.feed(0, 0, 0, 0, 0), 20);
        x.ask();
        Check.due("feed behind ask()", x.feed(0, 0, 0, 0, 0), 20);
    }
}
