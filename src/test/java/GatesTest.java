/** Promises 19 to 22: to LIFT, to LEAVE, CLOSINGS, KEEPERS. */
public final class GatesTest {
    public static void main(String[] args) {
        lifts();
        leaves();
        closings();
        keepers();
        keepersByMiles();
        tooManyClosings();
        Check.finish();
    }

    private static void lifts() {
        CenturyGates x = Check.with(Fens.FENS);
        Check.due("lift(0, 6)", x.lift(0, 6), 0);
        Check.due("lift(0, 5)", x.lift(0, 5), -1);
        Check.due("lift(1, 12)", x.lift(1, 12), 2);
        Check.due("lift(1, 13)", x.lift(1, 13), 0);
        Check.due("lift(1, 11)", x.lift(1, 11), -1);
        Check.due("lift(1, 199)", x.lift(1, 199), 0);
        Check.due("lift(1, 200)", x.lift(1, 200), -1);
        Check.due("lift(1, -1)", x.lift(1, -1), -1);
        Check.due("lift(2, 50)", x.lift(2, 50), -1);
        Check.due("lift(-1, 50)", x.lift(-1, 50), -1);
        x.put(1, 1);
        Check.due("lift(1, 12), up already", x.lift(1, 12), 0);
        CenturyGates one = Check.with(Fens.LONG_WAIT);
        Check.due("all gates that there are", one.lift(0, 1), 1);
        Check.due("none, by waiting", one.lift(0, 37), 0);
        Check.due("in no time", one.lift(0, 0), -1);
        CenturyGates all = Check.with("district 5;gate a at 0;gate b at 0;gate c at 0;gate d at 0;gate e at 0;"
                + "gate f at 0;place p;place q;place r;place s;place t;place u;place v;"
                + "lane p to q steps 1 over a;lane q to r steps 1 over b;lane r to s steps 1 over c;"
                + "lane s to t steps 1 over d;lane t to u steps 1 over e;lane u to v steps 1 over f;"
                + "era x long 30 pace 1 from 0;car y at p to v from 0;shuts all;");
        Check.due("six gates", all.lift(0, 6), 63);
        Check.due("five gates are not enough", all.lift(0, 5), -1);
        Check.due("five gates, the last one opens", all.lift(0, 37), 31);
        Check.due("none", all.lift(0, 42), 0);
        // two ways of two gates each, all closed in the minutes 0 .. 35; a way of one gate takes longer
        CenturyGates y = Check.with("district 5;gate a at 0;gate b at 0;gate c at 0;gate d at 0;gate e at 0;"
                + "place p;place q;place r;place s;"
                + "lane p to r steps 1 over d;lane r to q steps 1 over b;"
                + "lane p to s steps 1 over a;lane s to q steps 1 over c;lane p to q steps 9 over e;"
                + "era x long 30 pace 1 from 0;car y at p to q from 0;shuts all;");
        Check.due("two gates, the least bits", y.lift(0, 2), 1 | 4);
        Check.due("two gates", y.lift(0, 8), 1 | 4);
        Check.due("one gate is fewer", y.lift(0, 9), 16);
        Check.due("none, 36 on", y.lift(0, 38), 0);
        Check.due("one of two is enough for 37", y.lift(0, 37), 1);
        Check.due("none can be", y.lift(0, 1), -1);
        y.put(3, 1);
        Check.due("of those not up", y.lift(0, 2), 2);
        y.put(1, 1);
        Check.due("all up that it needs", y.lift(0, 2), 0);
        y.send(0, 2);
        Check.due("to another goal", y.lift(0, 1), 0);
    }

    private static void leaves() {
        CenturyGates x = Check.with(Fens.FENS);
        Check.due("leave(0, 0)", x.leave(0, 0), 0);
        Check.due("leave(0, 1)", x.leave(0, 1), 5);
        Check.due("leave(1, 1)", x.leave(1, 1), 3);
        Check.due("leave(0, 2)", x.leave(0, 2), -1);
        Check.due("leave(0, -1)", x.leave(0, -1), -1);
        Check.due("leave(2, 0)", x.leave(2, 0), -1);
        Check.due("leave(-1, 1)", x.leave(-1, 1), -1);
        CenturyGates y = Check.with(Fens.LONG_WAIT);
        Check.due("leave(0, 0)", y.leave(0, 0), 36);
        Check.due("leave(0, 1)", y.leave(0, 1), 1);
        // closed from 70 (an era of 90 minutes) to 159: from 99 on the way for 62
        CenturyGates z = Check.with("district 60;gate g at 0;place a;place b;lane a to b steps 1 over g;"
                + "era e long 30 pace 1 from 70;era f long 30 pace 1 from 0;car c at a to b from 0;shuts all;");
        Check.due("leave(0, 0), 99 at most", z.leave(0, 0), 99);
        Check.due("leave(0, 1), 99 at most", z.leave(0, 1), 63);
        CenturyGates never = Check.with("district 5;place a;place b;car c at a to b from 0;");
        Check.due("leave(0, 0), never", never.leave(0, 0), -1);
        Check.due("leave(0, 1), never", never.leave(0, 1), -1);
    }

    private static void closings() {
        CenturyGates x = Check.with(Fens.FENS);
        Check.due("closings(0, 0)", x.closings(0, 0), 2);
        Check.due("closings(0, 1)", x.closings(0, 1), 3);
        Check.due("closings(0, 2)", x.closings(0, 2), 6);
        Check.due("closings(0, 3)", x.closings(0, 3), -1);
        Check.due("closings(0, -1)", x.closings(0, -1), -1);
        Check.due("closings(2, 0)", x.closings(2, 0), -1);
        Check.due("closings(-1, 0)", x.closings(-1, 0), -1);
        x.put(0, 1);
        Check.due("closings(0, 0), up", x.closings(0, 0), 0);
        Check.due("closings(0, 1), up", x.closings(0, 1), -1);
        Check.due("closings(0, 2), up", x.closings(0, 2), -1);
        CenturyGates y = Check.with("district 60;gate g at 0;era e long 30 pace 1 from 99;shuts all;");
        y.hold(0, 98);
        Check.due("closings(0, 0), to the last minute", y.closings(0, 0), 1);
        Check.due("closings(0, 1), to the last minute", y.closings(0, 1), 197);
        Check.due("closings(0, 2), to the last minute", y.closings(0, 2), 199);
        CenturyGates z = Check.with("district 60;gate g at 0;era e long 30 pace 1 from 0;"
                + "shuts minute-minute/2*2=0;");
        Check.due("closings(0, 0), each other minute", z.closings(0, 0), 46);
        Check.due("closings(0, 2), each other minute", z.closings(0, 2), 0);
    }

    private static void keepers() {
        CenturyGates x = Check.with(Fens.FENS);
        // gog 3..6, 12; mag 6..9, 14..: one goes on to each next one only if it is there in time
        Check.due("keepers()", x.keepers(), 2);
        x.put(0, 1);
        Check.due("keepers() of one gate", x.keepers(), 1);
        x.put(1, 1);
        Check.due("keepers() of none", x.keepers(), 0);
        Check.due("keepers() without gates", Check.with("district 5;").keepers(), 0);
        Check.due("keepers() without a district", new CenturyGates().keepers(), -1);
        CenturyGates bad = new CenturyGates();
        Check.feed(bad, "district");
        bad.district();
        Check.due("keepers() with a fault alone", bad.keepers(), -1);
    }

    /** GATES at miles 0 and 4, closed once each, in the minutes 0 .. 9, and first .. 20. */
    private static void keepersByMiles() {
        for (int first = 8; first <= 16; first++) {
            CenturyGates x = Check.with("district 30;gate g at 0;gate h at 4;era e long 30 pace 1 from 0;"
                    + "shuts minute<10 and ahead<1-minute or minute>" + (first - 1)
                    + " and minute<21 and ahead=4-minute;");
            Check.due("the first minute", x.closings(1, 1), first);
            Check.due("the last minute", x.closings(0, 2), 9);
            Check.due("keepers(), from " + first, x.keepers(), first >= 9 + 1 + 4 ? 1 : 2);
            CenturyGates y = Check.with("district 30;gate h at 4;gate g at 0;era e long 30 pace 1 from 0;"
                    + "shuts minute<10 and ahead<1-minute or minute>" + (first - 1)
                    + " and minute<21 and ahead=4-minute;");
            Check.due("keepers(), the later gate first, from " + first, y.keepers(), first >= 9 + 1 + 4 ? 1 : 2);
        }
    }

    private static void tooManyClosings() {
        for (int minutes = 76; minutes <= 84; minutes++) {
            CenturyGates x = Check.with("district 60;gate g at 0;era e long 30 pace 1 from 0;"
                    + "shuts minute-minute/2*2=0 and minute<" + minutes + ";");
            int closings = (minutes + 1) / 2;
            Check.due("closings", x.closings(0, 0), closings);
            Check.due("keepers() of " + closings, x.keepers(), closings > 40 ? -1 : 1);
        }
        CenturyGates y = Check.with("district 60;gate g at 0;gate h at 60;era e long 30 pace 1 from 0;"
                + "shuts minute-minute/2*2=0 and minute<40;");
        Check.due("20 closings each", y.closings(1, 0), 20);
        Check.due("keepers() of 40", y.keepers(), 2);
        CenturyGates z = Check.with("district 60;gate g at 0;gate h at 60;era e long 30 pace 1 from 0;"
                + "shuts minute-minute/2*2=0 and minute<42;");
        Check.due("keepers() of 42 together", z.keepers(), -1);
    }
}
