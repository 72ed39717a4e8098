/** "An object is used for at most 512 calls": all of them are as due, however full the object is by then. */
public final class LastCallTest {
    private static final int CALLS = 512;

    public static void main(String[] args) {
        fullTapes();
        onlyActs();
        Check.finish();
    }

    /** Six texts of 1600 bytes, each with 80 feeds, each one read whole. */
    private static void fullTapes() {
        CenturyGates x = new CenturyGates();
        String start = "district 60;place p;place q;road p to q steps 1;car c at p to q from 0;sees 1";
        String text = start + "+1".repeat((1600 - start.length() - 2) / 2) + ";";
        text = text + " ".repeat(1600 - text.length());
        int calls = 0;
        for (int n = 0; n < 6; n++) {
            for (int k = 0; k < 80; k++) {
                calls++;
                Check.due("feed", x.feed(at(text, k, 0), at(text, k, 1), at(text, k, 2), at(text, k, 3), at(text, k, 4)),
                        20 * (k + 1));
            }
            calls++;
            Check.due("district()", x.district(), 6);
            calls++;
            Check.due("days(1)", x.days(1), 0);
            calls++;
            Check.due("car(0, 3)", x.car(0, 3), 1 + (1600 - start.length() - 2) / 2);
        }
        for (; calls < CALLS - 1; calls++) {
            Check.due("has(6)", x.has(6), 1);
        }
        Check.due("the 512th call", x.has(8), 1);
    }

    private static int at(String text, int row, int number) {
        int all = 0;
        for (int k = 0; k < 4; k++) {
            all = all << 8 | text.charAt(20 * row + 4 * number + k);
        }
        return all;
    }

    private static void onlyActs() {
        CenturyGates x = new CenturyGates();
        String text = "district 9;era e long 1 pace 1 from 0;";
        Check.due("feed", x.feed(at(text + "  ", 0, 0), at(text + "  ", 0, 1), at(text + "  ", 0, 2),
                at(text + "  ", 0, 3), at(text + "  ", 0, 4)), 20);
        Check.due("feed", x.feed(at(text + "  ", 1, 0), at(text + "  ", 1, 1), at(text + "  ", 1, 2),
                at(text + "  ", 1, 3), at(text + "  ", 1, 4)), 40);
        Check.due("district()", x.district(), 2);
        for (int calls = 3; calls < CALLS - 22; calls++) {
            Check.due("hold", x.hold(0, 1 + calls % 99), true);
        }
        Check.due("era(0, 3)", x.era(0, 3), 1 + (CALLS - 23) % 99);
        for (int n = 1; n <= 20; n++) {
            Check.due("undo()", x.undo(), true);
        }
        Check.due("the 512th call", x.era(0, 3), 1 + (CALLS - 43) % 99);
    }
}
