/** Promises 12 to 16, and the MINUTES of section II, sentence by sentence. */
public final class MinuteEdgesTest {
    private static final int[] FAR = {Integer.MIN_VALUE, -200, 1000, Integer.MAX_VALUE};

    public static void main(String[] args) {
        heads();
        closed();
        opens();
        drives();
        waits();
        Edge.finish(12, 13, 14, 15, 16);
    }

    private static void heads() {
        Edge.of(12, "MINUTES are 0 .. 199.");
        CenturyGates all = Check.with("district 60;gate g at 0;place p;place q;road p to q steps 1;"
                + "era e long 30 pace 1 from 0;era f long 30 pace 1 from 91;era h long 30 pace 1 from 99;"
                + "car c at p to q from 0;shuts all;");
        all.hold(2, 83);
        // ERAS are ON the line in 0 .. 90, 91 .. 181, 182 .. 199
        for (int minute : new int[] {-1, 0, 90, 91, 181, 182, 198, 199, 200}) {
            boolean is = minute >= 0 && minute <= 199;
            Check.due("closed(0, " + minute + ")", all.closed(0, minute), is ? 1 : -1);
            Check.due("opens(0, " + minute + ")", all.opens(0, minute), -1);
            Check.due("drive(0, 0, " + minute + ")", all.drive(0, 0, minute), is ? minute : -1);
        }
        Check.due("head(0, 0)", all.head(0, 0), 0);
        Check.due("head(2, 199)", all.head(2, 199), 17);
        Check.due("head(2, 200)", all.head(2, 200), -1);
        Check.due("the last MINUTE of a CLOSING", all.closings(0, 2), 199);
        Check.due("one CLOSING", all.closings(0, 0), 1);
        Check.due("lift(0, 199)", all.lift(0, 199), 0);
        Check.due("lift(0, 200)", all.lift(0, 200), -1);

        Edge.of(12, "An ERA sets out in the MINUTE of its from and its late together (no ERA is late at first): "
                + "its HEAD is then at mile 0, in each MINUTE farther by its pace;");
        CenturyGates x = Check.with("district 60;era e long 5 pace 9 from 20;era f long 30 pace 1 from 0;");
        Check.due("head(0, 19)", x.head(0, 19), -1);
        Check.due("head(0, 20)", x.head(0, 20), 0);
        Check.due("head(0, 21)", x.head(0, 21), 9);
        Check.due("head(0, 22)", x.head(0, 22), 18);
        Check.due("head(1, 0)", x.head(1, 0), 0);
        x.hold(0, 7);
        Check.due("head(0, 26), 7 late", x.head(0, 26), -1);
        Check.due("head(0, 27), 7 late", x.head(0, 27), 0);
        Check.due("head(0, 28), 7 late", x.head(0, 28), 9);

        Edge.of(12, "its tail is as many miles behind as it is long. It is ON the line from then on, as long as its "
                + "tail is at the last mile at most.");
        Check.due("head(1, 90), the tail at 60", x.head(1, 90), 90);
        Check.due("head(1, 91), the tail at 61", x.head(1, 91), -1);
        CenturyGates y = Check.with("district 5;era e long 1 pace 3 from 0;era f long 1 pace 9 from 0;");
        Check.due("head(0, 2), the tail at 5", y.head(0, 2), 6);
        Check.due("head(0, 3), the tail at 8", y.head(0, 3), -1);
        Check.due("head(1, 0), the tail at -1", y.head(1, 0), 0);
        Check.due("head(1, 1), the tail at 8", y.head(1, 1), -1);

        Edge.of(12, "The HEAD of an ERA in a MINUTE (0 .. 199);");
        CenturyGates z = Check.with("district 60;era e long 30 pace 1 from 99;");
        z.hold(0, 99);
        Check.due("head(0, 0)", x.head(1, 0), 0);
        Check.due("head(0, 198)", z.head(0, 198), 0);
        Check.due("head(0, 199)", z.head(0, 199), 1);
        Check.due("head(0, 200)", z.head(0, 200), -1);
        Check.due("head(1, -1)", x.head(1, -1), -1);
        for (int far : FAR) {
            Check.due("head(0, " + far + ")", z.head(0, far), -1);
        }

        Edge.of(12, "NONE when it is not ON the line, or there is none such.");
        Check.due("head(0, 197), ahead of it", z.head(0, 197), -1);
        Check.due("head(1, 150), behind it", x.head(1, 150), -1);
        Check.due("head(-1, 5)", x.head(-1, 5), -1);
        Check.due("head(2, 5)", x.head(2, 5), -1);
        Check.due("without a district", new CenturyGates().head(0, 0), -1);
        for (int far : FAR) {
            Check.due("head(" + far + ", 5)", x.head(far, 5), -1);
        }
    }

    private static void closed() {
        Edge.of(13, "A GATE is CLOSED in a MINUTE, if it is not UP (none is at first), and there is an ERA ON the line "
                + "for which the TEST of shuts holds.");
        // e is ON the line in the minutes 10 .. 16, f in 20 .. 26; one alone is enough
        CenturyGates x = Check.with("district 5;gate g at 0;gate h at 5;era e long 1 pace 1 from 10;"
                + "era f long 1 pace 1 from 20;shuts all;");
        int[] open = {0, 9, 17, 19, 27, 199};
        int[] shut = {10, 16, 20, 26};
        for (int gate = 0; gate < 2; gate++) {
            for (int minute : open) {
                Check.due("closed(" + gate + ", " + minute + ")", x.closed(gate, minute), 0);
            }
            for (int minute : shut) {
                Check.due("closed(" + gate + ", " + minute + ")", x.closed(gate, minute), 1);
            }
        }
        x.put(0, 1);
        Check.due("UP", x.closed(0, 10), 0);
        Check.due("the other one is not", x.closed(1, 10), 1);
        x.put(0, 0);
        Check.due("down", x.closed(0, 10), 1);
        Check.due("without an ERA", Check.with("district 5;gate g at 0;shuts all;").closed(0, 0), 0);
        Check.due("the TEST holds never", Check.with("district 5;gate g at 0;era e long 1 pace 1 from 0;shuts not all;")
                .closed(0, 0), 0);

        Edge.of(13, "Whether a GATE is CLOSED in a MINUTE (0 .. 199): 1 or 0;");
        CenturyGates y = Check.with("district 60;gate g at 0;era e long 30 pace 1 from 0;era f long 30 pace 1 from 99;"
                + "shuts all;");
        Check.due("closed(0, 0)", y.closed(0, 0), 1);
        Check.due("closed(0, -1)", y.closed(0, -1), -1);
        y.hold(1, 99);
        Check.due("closed(0, 197)", y.closed(0, 197), 0);
        Check.due("closed(0, 198)", y.closed(0, 198), 1);
        Check.due("closed(0, 199)", y.closed(0, 199), 1);
        Check.due("closed(0, 200)", y.closed(0, 200), -1);
        for (int far : FAR) {
            Check.due("closed(0, " + far + ")", y.closed(0, far), -1);
        }

        // the last GATE in the last MINUTES
        CenturyGates sixth = Check.with("district 60;gate a at 0;gate b at 0;gate c at 0;gate d at 0;gate e at 0;"
                + "gate f at 60;era x long 30 pace 1 from 99;shuts ahead>50;");
        sixth.hold(0, 92);
        for (int minute = 190; minute < 200; minute++) {
            Check.due("closed(5, " + minute + ")", sixth.closed(5, minute), minute >= 191 ? 1 : 0);
            Check.due("closed(4, " + minute + ")", sixth.closed(4, minute), 0);
        }

        Edge.of(13, "NONE when there is none such.");
        Check.due("closed(-1, 5)", y.closed(-1, 5), -1);
        Check.due("closed(1, 5)", y.closed(1, 5), -1);
        Check.due("closed(6, 5) of six", Check.with(TableEdgesTest.FULL).closed(6, 5), -1);
        Check.due("closed(5, 5) of six", Check.with(TableEdgesTest.FULL).closed(5, 5) >= 0, true);
        Check.due("without a district", new CenturyGates().closed(0, 0), -1);
        for (int far : FAR) {
            Check.due("closed(" + far + ", 5)", y.closed(far, 5), -1);
        }
    }

    private static void opens() {
        // closed in 10 .. 19, and from 190 on
        CenturyGates x = Check.with("district 60;gate g at 0;era e long 30 pace 1 from 10;era f long 30 pace 1 from 99;"
                + "shuts minute<20 or minute>189;");
        x.hold(1, 50);
        Edge.of(14, "The first MINUTE, from one on, in which a GATE is not CLOSED;");
        Check.due("opens(0, 0)", x.opens(0, 0), 0);
        Check.due("opens(0, 9)", x.opens(0, 9), 9);
        Check.due("opens(0, 10)", x.opens(0, 10), 20);
        Check.due("opens(0, 19)", x.opens(0, 19), 20);
        Check.due("opens(0, 20)", x.opens(0, 20), 20);
        Check.due("opens(0, 189)", x.opens(0, 189), 189);

        Edge.of(14, "NONE when there is none.");
        Check.due("opens(0, 190)", x.opens(0, 190), -1);
        Check.due("opens(0, 199)", x.opens(0, 199), -1);
        Check.due("opens(0, 200)", x.opens(0, 200), -1);
        Check.due("opens(0, -1)", x.opens(0, -1), -1);
        Check.due("opens(1, 0)", x.opens(1, 0), -1);
        Check.due("opens(-1, 0)", x.opens(-1, 0), -1);
        Check.due("without a district", new CenturyGates().opens(0, 0), -1);
        for (int far : FAR) {
            Check.due("opens(0, " + far + ")", x.opens(0, far), -1);
            Check.due("opens(" + far + ", 0)", x.opens(far, 0), -1);
        }
        x.put(0, 1);
        Check.due("opens(0, 199), UP", x.opens(0, 199), 199);
        Check.due("opens(0, 200), UP", x.opens(0, 200), -1);
    }

    /** PLACES 0, 1, 2 in a row; the first lane's GATE is closed in 10 .. 19, the second one's in 25 .. 39. */
    private static CenturyGates row() {
        return Check.with("district 60;gate g at 0;gate h at 60;place a;place b;place c;place d;"
                + "lane a to b steps 4 over g;lane b to c steps 6 over h;era e long 30 pace 1 from 0;"
                + "shuts ahead<1-minute and minute>9 and minute<20 or ahead=60-minute and minute>24 and minute<40;");
    }

    private static void drives() {
        CenturyGates x = row();
        Edge.of(15, "A DRIVE from a PLACE in a MINUTE: there one may wait MINUTES, take a road, or, if its GATE is not "
                + "CLOSED in the MINUTE in which one sets out on it, a lane, either way;");
        Check.due("closed(0, 10)", x.closed(0, 10) * 10 + x.closed(1, 10), 10);
        Check.due("closed(1, 30)", x.closed(0, 30) * 10 + x.closed(1, 30), 1);
        Check.due("it sets out ahead of the closing", x.drive(0, 1, 9), 13);
        Check.due("it waits from 10 to 20", x.drive(0, 1, 10), 24);
        Check.due("it waits from 19 to 20", x.drive(0, 1, 19), 24);
        Check.due("it sets out behind the closing", x.drive(0, 1, 20), 24);
        Check.due("back, ahead of the closing", x.drive(1, 0, 9), 13);
        Check.due("back, it waits", x.drive(1, 0, 10), 24);
        Check.due("it is at b in 24, ahead of the second closing", x.drive(0, 2, 15), 30);
        Check.due("it is at b in 25, and waits there until 40", x.drive(0, 2, 21), 46);
        CenturyGates road = Check.with("district 9;gate g at 0;place a;place b;road a to b steps 3;"
                + "era e long 9 pace 1 from 0;shuts all;");
        Check.due("a road has no GATE", road.drive(0, 1, 2), 5);
        Check.due("a road back", road.drive(1, 0, 2), 5);

        Edge.of(15, "one is at its end as many MINUTES on as it has steps.");
        CenturyGates y = Check.with("district 9;place a;place b;place c;road a to b steps 1;road b to c steps 60;");
        Check.due("1", y.drive(0, 1, 0), 1);
        Check.due("60", y.drive(1, 2, 0), 60);
        Check.due("61", y.drive(0, 2, 0), 61);
        Check.due("61 back", y.drive(2, 0, 7), 68);

        Edge.of(15, "It is at its goal the soonest it can be (in 199 at most).");
        CenturyGates z = Check.with("district 60;gate g at 0;place a;place b;place c;road a to b steps 12;"
                + "road a to b steps 11;lane b to a steps 3 over g;road a to c steps 4;road c to b steps 4;"
                + "era e long 1 pace 9 from 0;shuts minute<5;");
        Check.due("8 by another PLACE", z.drive(0, 1, 0), 8);
        Check.due("8 by another PLACE, or waiting", z.drive(0, 1, 1), 8);
        Check.due("by the lane", z.drive(0, 1, 5), 8);
        CenturyGates hops = Check.with("district 5;place a;place b;place c;place d;place e;place f;place g;"
                + "road a to b steps 10;road a to c steps 1;road c to b steps 1;road b to d steps 1;road a to e steps 59;"
                + "road d to e steps 1;road e to f steps 1;road a to f steps 60;road f to g steps 1;");
        int[] soonest = {0, 2, 1, 3, 4, 5, 6};
        for (int place = 0; place < 7; place++) {
            Check.due("by many roads to " + place, hops.drive(0, place, 0), soonest[place]);
            Check.due("and back from " + place, hops.drive(place, 0, 0), soonest[place]);
        }
        Check.due("in 199", z.drive(0, 1, 196), 199);
        Check.due("in 200", z.drive(0, 1, 197), -1);
        Check.due("in 199", y.drive(0, 2, 138), 199);
        Check.due("in 200", y.drive(0, 2, 139), -1);

        Edge.of(15, "The MINUTE in which a DRIVE from a PLACE in a MINUTE (0 .. 199) is at another one (itself: at once);");
        for (int minute : new int[] {0, 1, 198, 199}) {
            Check.due("itself", x.drive(3, 3, minute), minute);
        }
        Check.due("itself, -1", x.drive(3, 3, -1), -1);
        Check.due("itself, 200", x.drive(3, 3, 200), -1);
        Check.due("-1", x.drive(0, 1, -1), -1);
        Check.due("200", x.drive(0, 1, 200), -1);
        for (int far : FAR) {
            Check.due("drive(0, 1, " + far + ")", x.drive(0, 1, far), -1);
            Check.due("drive(0, 0, " + far + ")", x.drive(0, 0, far), -1);
        }

        Edge.of(15, "NONE when it can't be, or there are none such.");
        Check.due("no way", x.drive(0, 3, 0), -1);
        Check.due("no way back", x.drive(3, 0, 0), -1);
        Check.due("drive(4, 4, 0)", x.drive(4, 4, 0), -1);
        Check.due("drive(0, 4, 0)", x.drive(0, 4, 0), -1);
        Check.due("drive(4, 0, 0)", x.drive(4, 0, 0), -1);
        Check.due("drive(-1, 0, 0)", x.drive(-1, 0, 0), -1);
        Check.due("drive(0, -1, 0)", x.drive(0, -1, 0), -1);
        Check.due("drive(-1, -1, 0)", x.drive(-1, -1, 0), -1);
        Check.due("without a district", new CenturyGates().drive(0, 0, 0), -1);
        for (int far : FAR) {
            Check.due("drive(" + far + ", 0, 0)", x.drive(far, 0, 0), -1);
            Check.due("drive(0, " + far + ", 0)", x.drive(0, far, 0), -1);
            Check.due("drive(" + far + ", " + far + ", 0)", x.drive(far, far, 0), -1);
        }
        CenturyGates shut = Check.with("district 60;gate g at 0;place a;place b;lane a to b steps 1 over g;"
                + "era e long 30 pace 1 from 99;shuts all;");
        shut.hold(0, 99);
        Check.due("ahead of the closing", shut.drive(0, 1, 197), 198);
        Check.due("closed to the last MINUTE", shut.drive(0, 1, 198), -1);
    }

    private static void waits() {
        Edge.of(16, "It WAITS as many MINUTES as it is there later than it would be, if all GATES were UP.");
        // by the lane 3 if it were open; it is closed in 0 .. 8, the road takes 7
        String text = "district 5;gate g at 0;place a;place b;place c;lane a to b steps 3 over g;road a to b steps 7;"
                + "era e long 3 pace 1 from 0;shuts all;";
        for (int from = 0; from <= 10; from++) {
            CenturyGates x = Check.with(text + "car x at a to b from " + from + ";");
            int there = Math.min(from + 7, Math.max(9, from) + 3);
            Check.due("waits(0), from " + from, x.waits(0), there - from - 3);
            x.put(0, 1);
            Check.due("waits(0), UP", x.waits(0), 0);
        }

        Edge.of(16, "How long a CAR WAITS today;");
        CenturyGates x = Check.with(text + "car x at a to b from 6;car y at a to c from 0;late 20;");
        Check.due("waits(0)", x.waits(0), 3);
        x.days(1);
        Check.due("waits(0), the next day the ERA is later", x.waits(0), 0);

        Edge.of(16, "NONE when it is TOWED, or there is none such.");
        Check.due("waits(1), TOWED", x.waits(1), -1);
        Check.due("waits(2)", x.waits(2), -1);
        Check.due("waits(-1)", x.waits(-1), -1);
        Check.due("without a district", new CenturyGates().waits(0), -1);
        for (int far : FAR) {
            Check.due("waits(" + far + ")", x.waits(far), -1);
        }
        // closed from 99 to 189: there in 199 by 10 steps, not by 11; 60 and 60 from 99 are too many at all
        String late = "district 60;gate g at 0;place a;place b;place c;era e long 30 pace 1 from 99;"
                + "car x at a to b from 99;shuts all;";
        Check.due("there in 199", Check.with(late.replace("car", "lane a to b steps 9 over g;car")).waits(0), 91);
        Check.due("there in 200", Check.with(late.replace("car", "lane a to b steps 10 over g;car")).waits(0), -1);
        Check.due("never there", Check.with(late.replace("car", "road a to c steps 60;road c to b steps 60;car"))
                .waits(0), -1);
    }
}
