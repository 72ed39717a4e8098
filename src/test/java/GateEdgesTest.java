/** Promises 19 to 22, and what section III tells of them, sentence by sentence. */
public final class GateEdgesTest {
    private static final int[] FAR = {Integer.MIN_VALUE, -200, 1000, Integer.MAX_VALUE};

    public static void main(String[] args) {
        lifts();
        leaves();
        closings();
        keepers();
        Edge.finish(19, 20, 21, 22);
    }

    /** All GATES are closed in 0 .. 35: by a and d, by b and c, or by e alone, which takes 9. */
    private static CenturyGates ways(String more) {
        return Check.with("district 5;gate a at 0;gate b at 0;gate c at 0;gate d at 0;gate e at 0;gate f at 0;"
                + "place p;place q;place r;place s;place t;lane p to r steps 1 over a;lane r to q steps 1 over d;"
                + "lane p to s steps 1 over b;lane s to q steps 1 over c;lane p to q steps 9 over e;"
                + "era x long 30 pace 1 from 0;car y at p to q from 0;shuts all;" + more);
    }

    private static void lifts() {
        Edge.of(19, "To LIFT for a CAR are the fewest GATES not UP, put UP now, so that it is at its goal in a told "
                + "MINUTE, or sooner;");
        CenturyGates x = ways("");
        Check.due("in 38 by waiting", x.lift(0, 38), 0);
        Check.due("or sooner", x.lift(0, 199), 0);
        Check.due("in 9 by one", x.lift(0, 9), 16);
        Check.due("in 36 by that one too", x.lift(0, 36), 16);
        Check.due("in 8 by two", x.lift(0, 8), 6);
        x.put(1, 1);
        Check.due("b is UP, c is enough", x.lift(0, 2), 4);
        x.put(2, 1);
        Check.due("b and c are UP", x.lift(0, 2), 0);
        x.put(2, 0);
        x.put(1, 0);
        x.put(0, 1);
        Check.due("a is UP, d is enough", x.lift(0, 2), 8);
        Check.due("nothing is put UP by it", x.has(7), 1);

        Edge.of(19, "of like ones the least bits.");
        CenturyGates y = ways("");
        Check.due("b and c rather than a and d", y.lift(0, 2), 2 | 4);
        Check.due("in 37 a, b, c, d or e: the first", y.lift(0, 37), 1);
        CenturyGates z = ways("lane p to q steps 9 over f;");
        Check.due("e rather than f", z.lift(0, 9), 16);
        z.put(4, 1);
        Check.due("none when e is UP", z.lift(0, 9), 0);

        Edge.of(19, "To LIFT for a CAR to be there in a MINUTE (0 .. 199) at the latest, as bits;");
        CenturyGates w = ways("");
        Check.due("lift(0, 199)", w.lift(0, 199), 0);
        Check.due("lift(0, 200)", w.lift(0, 200), -1);
        Check.due("lift(0, 0)", w.lift(0, 0), -1);
        Check.due("lift(0, -1)", w.lift(0, -1), -1);
        for (int far : FAR) {
            Check.due("lift(0, " + far + ")", w.lift(0, far), -1);
        }
        CenturyGates six = Check.with("district 5;gate a at 0;gate b at 0;gate c at 0;gate d at 0;gate e at 0;"
                + "gate f at 0;place p;place q;place r;place s;place t;place u;place v;"
                + "lane p to q steps 1 over a;lane q to r steps 1 over b;lane r to s steps 1 over c;"
                + "lane s to t steps 1 over d;lane t to u steps 1 over e;lane u to v steps 1 over f;"
                + "era x long 30 pace 1 from 0;car y at p to v from 0;shuts all;");
        Check.due("all six", six.lift(0, 6), 63);

        Edge.of(19, "NONE when all are not enough, or there is none such.");
        Check.due("all six in 5", six.lift(0, 5), -1);
        Check.due("no way", Check.with("district 5;gate g at 0;place p;place q;car c at p to q from 0;").lift(0, 199), -1);
        Check.due("in 1", w.lift(0, 1), -1);
        Check.due("lift(1, 50)", w.lift(1, 50), -1);
        Check.due("lift(-1, 50)", w.lift(-1, 50), -1);
        Check.due("without a district", new CenturyGates().lift(0, 50), -1);
        for (int far : FAR) {
            Check.due("lift(" + far + ", 50)", w.lift(far, 50), -1);
        }
        CenturyGates late = ways("car z at p to q from 99;");
        Check.due("a CAR from 99 in 98", late.lift(1, 98), -1);
        Check.due("a CAR from 99 in 100", late.lift(1, 100), -1);
        Check.due("a CAR from 99 in 101", late.lift(1, 101), 0);
    }

    /** One lane of 2; its GATE is closed as the TEST tells, by an ERA that is ON the line in 0 .. 90. */
    private static CenturyGates lane(String shuts) {
        return Check.with("district 60;gate g at 0;place a;place b;place c;lane a to b steps 2 over g;"
                + "era e long 30 pace 1 from 0;era f long 30 pace 1 from 91;car x at a to b from 50;car y at a to c from 0;"
                + "shuts " + shuts + ";");
    }

    private static void leaves() {
        Edge.of(20, "A CAR had better LEAVE in the MINUTE (0 .. 99) from which it is on its way for the shortest time "
                + "(its waiting, too);");
        CenturyGates x = lane("minute<30");
        Check.due("leave(0, 0), when it opens", x.leave(0, 0), 30);
        Check.due("leave(0, 1)", x.leave(0, 1), 2);
        CenturyGates last = lane("minute<99");
        Check.due("leave(0, 0), the last MINUTE", last.leave(0, 0), 99);
        Check.due("leave(0, 1)", last.leave(0, 1), 2);
        CenturyGates beyond = lane("minute<100");
        Check.due("leave(0, 0), it opens in 100", beyond.leave(0, 0), 99);
        Check.due("leave(0, 1), its waiting too", beyond.leave(0, 1), 3);
        CenturyGates road = Check.with("district 60;gate g at 0;place a;place b;lane a to b steps 2 over g;"
                + "road a to b steps 5;era e long 30 pace 1 from 0;era f long 30 pace 1 from 91;car x at a to b from 0;"
                + "shuts minute<102;");
        Check.due("leave(0, 0), waiting 3 is as long as the road", road.leave(0, 0), 0);
        Check.due("leave(0, 1)", road.leave(0, 1), 5);

        Edge.of(20, "of like ones the first.");
        Check.due("all are alike", lane("not all").leave(0, 0), 0);
        Check.due("0 .. 9, and 20 and on", lane("minute>9 and minute<20").leave(0, 0), 0);
        Check.due("1 .. 9, and 20 and on", lane("minute=0 or minute>9 and minute<20").leave(0, 0), 1);

        Edge.of(20, "When a CAR had better LEAVE: the MINUTE (what 0), how long it is on its way (1).");
        CenturyGates y = lane("minute<7");
        Check.due("leave(0, 0)", y.leave(0, 0), 7);
        Check.due("leave(0, 1)", y.leave(0, 1), 2);
        y.put(0, 1);
        Check.due("leave(0, 0), UP", y.leave(0, 0), 0);

        Edge.of(20, "NONE when it can't, there is none such, or for others.");
        for (int what = 0; what < 2; what++) {
            Check.due("it can't", y.leave(1, what), -1);
            Check.due("leave(2)", y.leave(2, what), -1);
            Check.due("leave(-1)", y.leave(-1, what), -1);
            Check.due("without a district", new CenturyGates().leave(0, what), -1);
            for (int far : FAR) {
                Check.due("leave(" + far + ")", y.leave(far, what), -1);
                Check.due("leave(0, " + far + ")", y.leave(0, far), -1);
            }
        }
        Check.due("leave(0, -1)", y.leave(0, -1), -1);
        Check.due("leave(0, 2)", y.leave(0, 2), -1);
        Check.due("leave(0, 0), 4 x 50 steps", Check.with("district 5;place a;place b;place c;place d;place e;"
                + "road a to b steps 50;road b to c steps 50;road c to d steps 50;road d to e steps 50;"
                + "car x at a to e from 0;").leave(0, 0), -1);
        Check.due("leave(0, 0), 199 steps", Check.with("district 5;place a;place b;place c;place d;place e;"
                + "road a to b steps 50;road b to c steps 50;road c to d steps 50;road d to e steps 49;"
                + "car x at a to e from 99;").leave(0, 0), 0);
    }

    private static void closings() {
        Edge.of(21, "A CLOSING is a row of MINUTES in which a GATE is CLOSED, as long as it goes on: "
                + "from its first MINUTE to its last.");
        CenturyGates x = lane("minute>4 and minute<8 or minute=9 or minute>89");
        // 5 .. 7, 9, 90 .. 181, as the second ERA is ON the line in 91 .. 181
        Check.due("closings(0, 0)", x.closings(0, 0), 3);
        Check.due("closings(0, 1)", x.closings(0, 1), 5);
        Check.due("closings(0, 2)", x.closings(0, 2), 7);
        CenturyGates ends = lane("all");
        ends.hold(1, 18);
        Check.due("0 .. 90, 109 .. 199", ends.closings(0, 0), 2);
        Check.due("its first is 0", ends.closings(0, 1), 0);
        Check.due("its last is 90", ends.closings(0, 2), 90);
        ends.hold(0, 99);
        Check.due("99 .. 199", ends.closings(0, 0), 1);
        Check.due("its first is 99", ends.closings(0, 1), 99);
        Check.due("its last is 199", ends.closings(0, 2), 199);
        CenturyGates last = lane("minute=199");
        last.hold(1, 99);
        Check.due("199 alone", last.closings(0, 0), 1);
        Check.due("its first", last.closings(0, 1), 199);
        Check.due("its last", last.closings(0, 2), 199);
        CenturyGates many = lane("minute-minute/2*2=0");
        many.hold(1, 9);
        Check.due("each other MINUTE, 0 .. 90, 100 .. 190", many.closings(0, 0), 46 + 46);

        Edge.of(21, "How many CLOSINGS a GATE has (what 0), the first MINUTE of the first (1), the last one of it "
                + "(2; NONE each without).");
        CenturyGates none = lane("not all");
        Check.due("closings(0, 0)", none.closings(0, 0), 0);
        Check.due("closings(0, 1)", none.closings(0, 1), -1);
        Check.due("closings(0, 2)", none.closings(0, 2), -1);
        x.put(0, 1);
        Check.due("closings(0, 0), UP", x.closings(0, 0), 0);
        Check.due("closings(0, 1), UP", x.closings(0, 1), -1);
        Check.due("closings(0, 2), UP", x.closings(0, 2), -1);

        Edge.of(21, "NONE when there is none such, or for others.");
        for (int what = 0; what < 3; what++) {
            Check.due("closings(1)", ends.closings(1, what), -1);
            Check.due("closings(-1)", ends.closings(-1, what), -1);
            Check.due("closings(6) of six", Check.with(TableEdgesTest.FULL).closings(6, what), -1);
            Check.due("without a district", new CenturyGates().closings(0, what), -1);
            for (int far : FAR) {
                Check.due("closings(" + far + ")", ends.closings(far, what), -1);
                Check.due("closings(0, " + far + ")", ends.closings(0, far), -1);
            }
        }
        Check.due("closings(0, -1)", ends.closings(0, -1), -1);
        Check.due("closings(0, 3)", ends.closings(0, 3), -1);
    }

    /** GATES at 0 and at a mile, in the order told; one is closed in 5 .. 9, the other one from first to 30. */
    private static int keepersBetween(int mile, int first, boolean turned) {
        String near = "gate g at 0;";
        String far = "gate h at " + mile + ";";
        return Check.with("district 60;" + (turned ? far + near : near + far) + "era e long 30 pace 1 from 0;"
                + "shuts ahead+minute=0 and minute>4 and minute<10 or ahead+minute=" + mile + " and minute>" + (first - 1)
                + " and minute<31;").keepers();
    }

    private static void keepers() {
        Edge.of(22, "one can go from a CLOSING to another one, if that begins no sooner than the first one is over "
                + "(the MINUTE behind its last) and as many MINUTES as the GATES are miles apart.");
        for (int mile : new int[] {1, 4, 15}) {
            for (int first = 10 + mile - 2; first <= 10 + mile + 2; first++) {
                int want = first >= 10 + mile ? 1 : 2;
                Check.due(mile + " miles, from " + first, keepersBetween(mile, first, false), want);
                Check.due(mile + " miles, from " + first + ", turned", keepersBetween(mile, first, true), want);
            }
        }
        Check.due("to the same GATE with a MINUTE between", lane("minute=5 or minute=7").keepers(), 1);
        Check.due("two GATES at one mile, one behind the other", Check.with("district 9;gate g at 3;gate h at 3;"
                + "era e long 1 pace 1 from 0;shuts minute=4;").keepers(), 2);

        Edge.of(22, "KEEPERS are the fewest, of whom each CLOSING has one:");
        // g in 0, h in 11, g in 22, i in 43: one meets all; g in 12, too, needs a second one
        String three = "district 60;gate g at 0;gate h at 10;gate i at 20;era e long 30 pace 1 from 0;shuts "
                + "ahead+minute=0 and [minute=0 or minute=22] or ahead+minute=10 and minute=11 or ahead+minute=20 and "
                + "minute=43";
        Check.due("one", Check.with(three + ";").keepers(), 1);
        Check.due("two", Check.with(three + " or ahead+minute=0 and minute=12;").keepers(), 2);
        // g and h in 0, all three in 11
        Check.due("three", Check.with("district 60;gate g at 0;gate h at 10;gate i at 20;era e long 30 pace 1 from 0;"
                + "shuts minute=0 and ahead+minute<11 or minute=11;").keepers(), 3);
        // from h 0 one can go to g 11 or i 11, from g 0 to g 11 alone: two are enough, if h's goes to i
        Check.due("pairs are chosen well", Check.with("district 60;gate h at 10;gate g at 0;gate i at 20;"
                + "era e long 30 pace 1 from 0;shuts minute=0 and ahead<11 or minute=11 and not ahead+minute=10;")
                .keepers(), 2);
        CenturyGates none = lane("not all");
        Check.due("none", none.keepers(), 0);
        Check.due("none without GATES", Check.with("district 5;").keepers(), 0);
        CenturyGates up = lane("all");
        Check.due("one", up.keepers(), 1);
        up.put(0, 1);
        Check.due("none, UP", up.keepers(), 0);

        Edge.of(22, "KEEPERS; NONE when there are more than 40 CLOSINGS, or without a district.");
        CenturyGates one = lane("minute-minute/2*2=0 and minute<79");
        Check.due("40 of one GATE", one.closings(0, 0), 40);
        Check.due("keepers()", one.keepers(), 1);
        CenturyGates more = lane("minute-minute/2*2=0 and minute<81");
        Check.due("41 of one GATE", more.closings(0, 0), 41);
        Check.due("keepers()", more.keepers(), -1);
        String two = "district 60;gate g at 0;gate h at 60;era e long 30 pace 1 from 0;shuts minute-minute/2*2=0 and minute<";
        Check.due("20 and 20", Check.with(two + "39;").keepers(), 2);
        Check.due("20 and 21", Check.with(two + "39 or minute=50 and ahead<0;").keepers(), -1);
        Check.due("21 and 21", Check.with(two + "41;").keepers(), -1);
        more.put(0, 1);
        Check.due("keepers(), UP", more.keepers(), 0);
        Check.due("without a district", new CenturyGates().keepers(), -1);
    }
}
