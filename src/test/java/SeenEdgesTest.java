/** Promises 23 to 25, and what section III tells of them, sentence by sentence. */
public final class SeenEdgesTest {
    private static final int[] FAR = {Integer.MIN_VALUE, -200, 1000, Integer.MAX_VALUE};

    /** Two GATES; each ERA shuts one in the single MINUTE in which its head is there. */
    private static final String TWO = "district 60;gate g at 0;gate h at 6;era e long 1 pace 1 from 10;"
            + "era f long 1 pace 2 from 10;shuts ahead=0;";

    public static void main(String[] args) {
        sees();
        was();
        tells();
        Edge.finish(23, 24, 25);
    }

    private static void see(CenturyGates x, int want, int... bytes) {
        Check.feed(x, bytes);
        int rows = x.has(9);
        int refused = x.status(1);
        Check.due("see()", x.see(), want);
        Check.due("status(1)", x.status(1), want == -1 ? refused + 1 : refused);
        Check.due("has(9)", x.has(9), want == -1 ? rows : want);
        Check.due("the tape goes", x.end(1), false);
    }

    private static void sees() {
        Edge.of(23, "SEEN are rows of a MINUTE, a GATE, 1 if it was CLOSED, else 0:");
        CenturyGates x = Check.with(TWO);
        see(x, 1, 0, 0, 0);
        see(x, 1, 199, 0, 0);
        see(x, -1, 200, 0, 0);
        see(x, -1, 255, 0, 0);
        see(x, 1, 0, 1, 0);
        see(x, -1, 0, 2, 0);
        see(x, -1, 0, 255, 0);
        see(x, 1, 0, 0, 1);
        see(x, -1, 0, 0, 2);
        see(x, -1, 0, 0, 255);
        CenturyGates six = Check.with(TableEdgesTest.FULL);
        see(six, 1, 0, 5, 0);
        see(six, -1, 0, 6, 0);

        Edge.of(23, "The tape (it goes) tells what is SEEN, 1 to 16 rows of three bytes: how many rows;");
        see(x, -1);
        see(x, 1, 1, 1, 1);
        see(x, 2, 1, 1, 1, 2, 0, 0);
        see(x, 15, new int[45]);
        see(x, 16, new int[48]);
        see(x, -1, new int[51]);
        for (int size : new int[] {1, 2, 4, 5, 46, 47, 49, 50, 1600}) {
            see(x, -1, new int[size]);
        }
        Check.due("16 stay", x.has(9), 16);
        see(x, 1, 1, 1, 1);
        Check.due("the latest alone", x.has(9), 1);

        Edge.of(23, "NONE, refused (1), all staying, when it is none such.");
        see(x, 2, 13, 0, 1, 14, 1, 0);
        was(x, 0, 1, 3, 3);
        int[] rows = new int[48];
        rows[46] = 7;
        see(x, -1, rows);
        see(x, -1, 12, 0, 1, 12, 0, 2);
        see(x, -1, 12, 0, 1, 12, 0);
        was(x, 0, 1, 3, 3);
        see(new CenturyGates(), -1, 0, 0, 0);
        see(Check.with("district 5;"), -1, 0, 0, 0);
    }

    private static void was(CenturyGates x, int era, int count, int least, int greatest) {
        Check.due("was(" + era + ", 0)", x.was(era, 0), count);
        Check.due("was(" + era + ", 1)", x.was(era, 1), least);
        Check.due("was(" + era + ", 2)", x.was(era, 2), greatest);
    }

    private static void was() {
        Edge.of(24, "LATE are numbers (0 .. 99) by which a told ERA can be late now, so that all is so.");
        CenturyGates x = Check.with(TWO);
        // e shuts g in 10 + late, h in 16 + late; f (not late) shuts g in 10 and h in 13
        see(x, 1, 9, 0, 1);
        was(x, 0, 0, -1, -1);
        see(x, 1, 11, 0, 1);
        was(x, 0, 1, 1, 1);
        see(x, 1, 109, 0, 1);
        was(x, 0, 1, 99, 99);
        see(x, 1, 110, 0, 1);
        was(x, 0, 0, -1, -1);
        see(x, 1, 109, 0, 0);
        was(x, 0, 99, 0, 98);
        see(x, 2, 109, 0, 0, 16, 1, 0);
        was(x, 0, 98, 1, 98);
        see(x, 2, 20, 0, 1, 26, 1, 1);
        was(x, 0, 1, 10, 10);
        see(x, 2, 20, 0, 1, 26, 1, 0);
        was(x, 0, 0, -1, -1);
        see(x, 2, 20, 0, 1, 20, 0, 0);
        was(x, 0, 0, -1, -1);
        // each of 16 rows counts
        int[] rows = new int[48];
        for (int row = 0; row < 16; row++) {
            for (int k = 0; k < 16; k++) {
                rows[3 * k] = 30;
                rows[3 * k + 1] = 0;
                rows[3 * k + 2] = 0;
            }
            rows[3 * row] = 31;
            rows[3 * row + 2] = 1;
            see(x, 16, rows);
            was(x, 0, 1, 21, 21);
        }
        // the other ERA is as late as it is now
        see(x, 1, 10, 0, 1);
        was(x, 0, 100, 0, 99);
        was(x, 1, 100, 0, 99);
        see(x, 1, 10, 0, 0);
        was(x, 0, 0, -1, -1);
        x.hold(1, 50);
        was(x, 0, 99, 1, 99);
        was(x, 1, 0, -1, -1);
        x.hold(0, 50);
        was(x, 1, 99, 1, 99);
        // GATES are as they are now
        x.put(0, 1);
        was(x, 0, 100, 0, 99);
        see(x, 1, 60, 0, 1);
        was(x, 0, 0, -1, -1);

        Edge.of(24, "LATE of an ERA by what is SEEN (all, if nothing is): how many numbers (what 0), the least, "
                + "the greatest (1, 2; NONE without).");
        CenturyGates y = Check.with(TWO);
        was(y, 0, 100, 0, 99);
        was(y, 1, 100, 0, 99);
        was(Check.with("district 5;era e long 1 pace 1 from 0;"), 0, 100, 0, 99);
        see(y, 1, 50, 0, 1);
        was(y, 0, 1, 40, 40);
        see(y, 1, 9, 0, 1);
        was(y, 0, 0, -1, -1);
        was(y, 1, 0, -1, -1);

        Edge.of(24, "NONE when there is none such, or for others.");
        CenturyGates z = Check.with(TWO);
        for (int what = 0; what < 3; what++) {
            Check.due("was(2)", z.was(2, what), -1);
            Check.due("was(-1)", z.was(-1, what), -1);
            Check.due("was(5) of five", Check.with(TableEdgesTest.FULL).was(5, what), -1);
            Check.due("without a district", new CenturyGates().was(0, what), -1);
            for (int far : FAR) {
                Check.due("was(" + far + ")", z.was(far, what), -1);
                Check.due("was(0, " + far + ")", z.was(0, far), -1);
            }
        }
        Check.due("was(0, -1)", z.was(0, -1), -1);
        Check.due("was(0, 3)", z.was(0, 3), -1);
    }

    private static void tells(CenturyGates x, int era, int minute, int gate, int left) {
        Check.due("tells(" + era + ", 0)", x.tells(era, 0), minute);
        Check.due("tells(" + era + ", 1)", x.tells(era, 1), gate);
        Check.due("tells(" + era + ", 2)", x.tells(era, 2), left);
    }

    private static void tells() {
        Edge.of(25, "TELLING is the MINUTE, the GATE, by which, CLOSED or not, the most of these left are fewest;");
        // g is shut from when the ERA sets out: in minute m by all numbers up to m - 10; 50 of 100 in 59
        CenturyGates half = Check.with("district 60;gate h at 60;gate g at 0;era e long 30 pace 1 from 10;"
                + "shuts ahead<1;");
        tells(half, 0, 59, 1, 50);
        see(half, 1, 59, 1, 1);
        was(half, 0, 50, 0, 49);
        tells(half, 0, 34, 1, 25);
        see(half, 2, 59, 1, 1, 11, 1, 0);
        was(half, 0, 48, 2, 49);
        tells(half, 0, 35, 1, 24);
        see(half, 2, 11, 1, 1, 10, 1, 0);
        was(half, 0, 1, 1, 1);
        tells(half, 0, 0, 0, 1);
        see(half, 2, 12, 1, 1, 10, 1, 0);
        was(half, 0, 2, 1, 2);
        tells(half, 0, 11, 1, 1);
        // not by which it is CLOSED most, nor least
        CenturyGates shut = Check.with("district 60;gate g at 0;era e long 30 pace 1 from 0;shuts minute>0 and ahead<1;");
        see(shut, 1, 3, 0, 1);
        was(shut, 0, 4, 0, 3);
        tells(shut, 0, 1, 0, 2);

        CenturyGates zero = Check.with("district 60;gate g at 0;era e long 30 pace 1 from 0;shuts minute=0;");
        tells(zero, 0, 0, 0, 99);
        CenturyGates last = Check.with("district 60;gate a at 0;gate b at 0;gate c at 0;gate d at 0;gate e at 0;gate f at 60;"
                + "era x long 30 pace 1 from 99;shuts minute=199 and ahead>0;");
        // ON the line in 199 are the numbers 10 .. 99; its head is at 100 - late, ahead of f while below 60
        tells(last, 0, 199, 5, 59);

        // the numbers 36 .. 64 are left, CLOSED in 64 .. 126 by all of them, in 127 by 37 .. 50
        CenturyGates row = Check.with("district 60;gate g at 0;era e long 30 pace 1 from 0;"
                + "shuts minute>63 and minute<127 or minute=127 and ahead<0-76;");
        see(row, 2, 64, 0, 1, 126, 0, 1);
        was(row, 0, 29, 36, 64);
        tells(row, 0, 127, 0, 15);

        Edge.of(25, "of like ones the first, MINUTE by MINUTE, GATE by GATE.");
        CenturyGates like = Check.with("district 60;gate g at 5;gate h at 5;gate i at 0;era e long 30 pace 1 from 10;"
                + "shuts ahead<1;");
        tells(like, 0, 59, 2, 50);
        see(like, 1, 12, 2, 1);
        was(like, 0, 3, 0, 2);
        // i in 10 and 11 tells two at the most, so do g and h in 15 and 16
        tells(like, 0, 10, 2, 2);
        CenturyGates same = Check.with("district 60;gate g at 5;gate h at 5;era e long 30 pace 1 from 10;shuts ahead<1;");
        tells(same, 0, 64, 0, 50);
        CenturyGates up = Check.with(TWO);
        up.put(0, 1);
        up.put(1, 1);
        tells(up, 0, 0, 0, 100);

        Edge.of(25, "TELLING for an ERA: the MINUTE (what 0), the GATE (1), how many numbers are left at the most (2).");
        CenturyGates x = Check.with(TWO);
        // each MINUTE tells one number from the 99 others: the first is 11, as f shuts g in 10
        tells(x, 0, 11, 0, 99);
        tells(x, 1, 11, 0, 99);
        x.hold(1, 9);
        tells(x, 0, 10, 0, 99);
        see(x, 1, 109, 0, 1);
        tells(x, 0, 0, 0, 1);

        Edge.of(25, "NONE without any, without GATES, when there is none such, or for others.");
        see(x, 1, 9, 0, 1);
        tells(x, 0, -1, -1, -1);
        tells(Check.with("district 60;era e long 30 pace 1 from 10;"), 0, -1, -1, -1);
        tells(x, 2, -1, -1, -1);
        tells(x, -1, -1, -1, -1);
        tells(Check.with(TableEdgesTest.FULL), 5, -1, -1, -1);
        tells(new CenturyGates(), 0, -1, -1, -1);
        CenturyGates z = Check.with(TWO);
        for (int far : FAR) {
            tells(z, far, -1, -1, -1);
            Check.due("tells(0, " + far + ")", z.tells(0, far), -1);
        }
        Check.due("tells(0, -1)", z.tells(0, -1), -1);
        Check.due("tells(0, 3)", z.tells(0, 3), -1);
    }
}
