/** Promises 12 to 16: where ERAS are, when GATES are CLOSED, DRIVES, WAITS; and the arithmetic of TEST. */
public final class MinutesTest {
    public static void main(String[] args) {
        heads();
        closings();
        shuts();
        opens();
        drives();
        waits();
        Check.finish();
    }

    private static void heads() {
        CenturyGates x = Check.with(Fens.FENS);
        Check.due("head(0, 0)", x.head(0, 0), -1);
        Check.due("head(0, 1)", x.head(0, 1), 0);
        Check.due("head(0, 2)", x.head(0, 2), 2);
        Check.due("head(0, 13), the tail at the last mile", x.head(0, 13), 24);
        Check.due("head(0, 14)", x.head(0, 14), -1);
        Check.due("head(1, 17)", x.head(1, 17), 21);
        Check.due("head(1, 18)", x.head(1, 18), -1);
        Check.due("head(2, 5)", x.head(2, 5), -1);
        Check.due("head(-1, 5)", x.head(-1, 5), -1);
        Check.due("head(0, -1)", x.head(0, -1), -1);
        Check.due("head(0, greatest)", x.head(0, Integer.MAX_VALUE), -1);
        x.hold(1, 99);
        Check.due("head(1, 10) held", x.head(1, 10), -1);
        Check.due("head(1, 109) held", x.head(1, 109), 0);
        CenturyGates y = Check.with("district 60;era e long 30 pace 1 from 99;");
        y.hold(0, 99);
        Check.due("head(0, 197)", y.head(0, 197), -1);
        Check.due("head(0, 198)", y.head(0, 198), 0);
        Check.due("head(0, 199)", y.head(0, 199), 1);
        Check.due("head(0, 200)", y.head(0, 200), -1);
    }

    private static void closings() {
        CenturyGates x = Check.with(Fens.FENS);
        // gog at 6: old from when its head is at 4 (minute 3) until its tail is at 6 (minute 6);
        // new from 6 (minute 12) until its head is at 6 (its tail is at 4), then at 9 the tail is at 7
        int[] shut = {0, 0, 0, 1, 1, 1, 1, 0, 0, 0, 0, 0, 1, 0, 0};
        for (int minute = 0; minute < shut.length; minute++) {
            Check.due("closed(0, " + minute + ")", x.closed(0, minute), shut[minute]);
        }
        Check.due("closed(2, 0)", x.closed(2, 0), -1);
        Check.due("closed(-1, 0)", x.closed(-1, 0), -1);
        Check.due("closed(0, -1)", x.closed(0, -1), -1);
        Check.due("closed(0, 200)", x.closed(0, 200), -1);
        Check.due("closed(0, 199)", x.closed(0, 199), 0);
        x.put(0, 1);
        Check.due("closed(0, 3), up", x.closed(0, 3), 0);
        Check.due("closed(1, 6), the other one", x.closed(1, 6), 1);
        x.put(0, 0);
        x.hold(0, 7);
        Check.due("closed(0, 3), later", x.closed(0, 3), 0);
        Check.due("closed(0, 10), later", x.closed(0, 10), 1);
        x.undo();
        Check.due("closed(0, 3), undone", x.closed(0, 3), 1);
        CenturyGates none = Check.with("district 9;gate g at 1;shuts all;");
        Check.due("no era closes", none.closed(0, 0), 0);
    }

    /** A GATE at mile 5, an ERA (long 3, pace 2, from 10): a TEST is looked at in minute 14, its head at 8. */
    private static void shut(String test, int want) {
        CenturyGates x = Check.with("district 30;gate g at 5;era e long 3 pace 2 from 10;shuts " + test + ";");
        Check.due("shuts " + test, x.closed(0, 14), want);
        Check.due("not on the line, shuts " + test, x.closed(0, 9), 0);
    }

    private static void shuts() {
        shut("ahead=0-3", 1);
        shut("behind=0", 1);
        shut("long=3 and pace=2 and minute=14", 1);
        shut("all", 1);
        shut("not all", 0);
        shut("not not all", 1);
        shut("1<2", 1);
        shut("2<2", 0);
        shut("2>2", 0);
        shut("3>2", 1);
        shut("2=2", 1);
        shut("2=3", 0);
        shut("2+3*4=14", 1);
        shut("(2+3)*4=20", 1);
        shut("10-3-2=5", 1);
        shut("100/10/5=2", 1);
        shut("100/(10/5)=50", 1);
        shut("7/2=3", 1);
        shut("(0-7)/2=0-4", 1);
        shut("7/(0-2)=0-4", 1);
        shut("(0-7)/(0-2)=3", 1);
        shut("7/0=0", 1);
        shut("(0-7)/(3-3)=0", 1);
        shut("7/2*2=6", 1);
        shut("2*7/2=7", 1);
        shut("9999*9999=9999*101", 1);
        shut("9999*9999-1=9999*9999", 0);
        shut("9999*9999/1000=1000", 1);
        shut("0-9999*9999=0-1000*1000", 1);
        shut("0-9999*9999-1=0-1000*1000", 1);
        shut("1000*1000+1=1000*1000", 1);
        shut("1000*1000-1=1000*1000", 0);
        shut("1000*1000-1=999*1000+999", 1);
        shut("(0-9999)*9999/1000=0-1000", 1);
        shut("min(3,4)=3 and max(3,4)=4 and min(0-1,1)<0", 1);
        shut("min(2+3,4*1)=max(4,3)", 1);
        shut("1<2 or 1<2 and 2<1", 1);
        shut("[1<2 or 1<2] and 2<1", 0);
        shut("2<1 and 1<2 or 1<2", 1);
        shut("not 1<2 or 1<2", 1);
        shut("not [1<2 or 1<2]", 0);
        shut("not 2<1 and 2<1", 0);
        shut("2<1 or 2<1 or 1<2", 1);
        shut("all and all and not all", 0);
    }

    private static void opens() {
        CenturyGates x = Check.with(Fens.FENS);
        Check.due("opens(0, 0)", x.opens(0, 0), 0);
        Check.due("opens(0, 3)", x.opens(0, 3), 7);
        Check.due("opens(0, 6)", x.opens(0, 6), 7);
        Check.due("opens(0, 7)", x.opens(0, 7), 7);
        Check.due("opens(2, 0)", x.opens(2, 0), -1);
        Check.due("opens(0, -1)", x.opens(0, -1), -1);
        Check.due("opens(0, 200)", x.opens(0, 200), -1);
        CenturyGates y = Check.with("district 60;gate g at 0;era e long 30 pace 1 from 99;shuts all;");
        y.hold(0, 90);
        Check.due("opens(0, 188)", y.opens(0, 188), 188);
        Check.due("opens(0, 189), never", y.opens(0, 189), -1);
        Check.due("opens(0, 199), never", y.opens(0, 199), -1);
        y.put(0, 1);
        Check.due("opens(0, 199), up", y.opens(0, 199), 199);
    }

    private static void drives() {
        CenturyGates x = Check.with(Fens.FENS);
        Check.due("drive(0, 1, 1)", x.drive(0, 1, 1), 6);
        Check.due("drive(1, 0, 0)", x.drive(1, 0, 0), 9);
        Check.due("drive(0, 2, 3), it waits", x.drive(0, 2, 3), 9);
        Check.due("drive(0, 1, 3), the road is sooner", x.drive(0, 1, 3), 12);
        Check.due("drive(2, 0, 2), back over the lane", x.drive(2, 0, 2), 4);
        Check.due("drive(2, 2, 199)", x.drive(2, 2, 199), 199);
        Check.due("drive(0, 2, 197)", x.drive(0, 2, 197), 199);
        Check.due("drive(0, 2, 198)", x.drive(0, 2, 198), -1);
        Check.due("drive(0, 3, 0)", x.drive(0, 3, 0), -1);
        Check.due("drive(-1, 0, 0)", x.drive(-1, 0, 0), -1);
        Check.due("drive(3, 3, 0)", x.drive(3, 3, 0), -1);
        Check.due("drive(0, 0, 200)", x.drive(0, 0, 200), -1);
        Check.due("drive(0, 0, -1)", x.drive(0, 0, -1), -1);
        x.put(0, 1);
        Check.due("drive(0, 2, 3), up", x.drive(0, 2, 3), 5);
        CenturyGates y = Check.with("district 5;place a;place b;place c;road a to b steps 5;road b to a steps 3;"
                + "road b to c steps 60;");
        Check.due("the shorter of two", y.drive(0, 1, 0), 3);
        Check.due("there and on", y.drive(0, 2, 10), 73);
        Check.due("back", y.drive(2, 0, 136), 199);
        Check.due("back, too late", y.drive(2, 0, 137), -1);
    }

    private static void waits() {
        CenturyGates x = Check.with(Fens.FENS);
        Check.due("waits(0)", x.waits(0), 0);
        Check.due("waits(1)", x.waits(1), 1);
        Check.due("waits(2)", x.waits(2), -1);
        Check.due("waits(-1)", x.waits(-1), -1);
        CenturyGates y = Check.with(Fens.LONG_WAIT);
        Check.due("waits(0)", y.waits(0), 36);
        y.put(0, 1);
        Check.due("waits(0), up", y.waits(0), 0);
        CenturyGates z = Check.with("district 60;gate g at 0;place a;place b;lane a to b steps 2 over g;"
                + "era e long 30 pace 1 from 99;car c at a to b from 99;shuts all;");
        Check.due("waits(0) until minute 190", z.waits(0), 91);
        z.hold(0, 7);
        Check.due("waits(0), ahead of it", z.waits(0), 0);
        CenturyGates towed = Check.with("district 60;gate g at 0;place a;place b;lane a to b steps 9 over g;"
                + "era e long 30 pace 1 from 99;era f long 30 pace 1 from 10;car c at a to b from 99;shuts all;");
        Check.due("waits(0), at 190 on the way, at 199 there", towed.waits(0), 91);
        towed.hold(1, 91);
        Check.due("waits(0), towed by a minute", towed.waits(0), -1);
    }
}
