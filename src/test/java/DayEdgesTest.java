/** Promises 17 and 18, and the DAY of section II, sentence by sentence. */
public final class DayEdgesTest {
    private static final int[] FAR = {Integer.MIN_VALUE, -1000, 1000, Integer.MAX_VALUE};
    private static final String PLACES = "district 5;gate g at 0;place a;place b;place c;lane a to b steps 1 over g;";

    public static void main(String[] args) {
        driving();
        towed();
        knowing();
        swapping();
        lateness();
        theDay();
        ahead();
        laterCalls();
        lateCalls();
        Edge.finish(17, 18);
    }

    /** The GATE is closed in the minutes 0 .. 8, when the ERA is not late. */
    private static CenturyGates one(String rules) {
        return Check.with(PLACES + "era e long 3 pace 1 from 0;car x at a to b from 0;shuts all;" + rules);
    }

    private static void driving() {
        Edge.of(17, "A DAY: each CAR DRIVES from where it is to its goal, from its MINUTE on.");
        CenturyGates x = Check.with(PLACES + "era e long 3 pace 1 from 0;car x at a to b from 0;car y at b to a from 5;"
                + "shuts all;");
        Check.due("the first knows 9", x.later(0, 1, 1), 9);
        Check.due("the second knows 4", x.later(1, 1, 1), 4);
        Check.due("the first is at its goal", x.later(0, 1, 0), 1);
        Check.due("the second is at its goal", x.later(1, 1, 0), 0);
        x.days(1);
        Check.due("the next day from there", x.later(1, 1, 0), 1);
    }

    private static void towed() {
        Edge.of(17, "If it can't be there, it is TOWED: it stays, and WAITS 0.");
        CenturyGates x = Check.with(PLACES + "car x at a to c from 0;car y at a to b from 0;era e long 3 pace 1 from 0;"
                + "shuts all;late waits;sees 5;");
        Check.due("later(0, 1, 0)", x.later(0, 1, 0), 0);
        Check.due("it learns nothing", x.later(0, 1, 1), 0);
        Check.due("late, by what the other one waited", x.late(0, 1), 9);
        Check.due("days(1)", x.days(1), 9);
        Check.due("car(0, 0)", x.car(0, 0), 0);
        Check.due("car(0, 1)", x.car(0, 1), 2);
        Check.due("kept(0, 1)", x.kept(0, 1), 9);
        Check.due("kept(0, 2)", x.kept(0, 2), 1);
        CenturyGates all = Check.with("district 5;place a;place b;car x at a to b from 0;car y at b to a from 0;sees 5;");
        Check.due("days(2), all are TOWED", all.days(2), 0);
        Check.due("kept(1, 2)", all.kept(1, 2), 2);
        Check.due("car(1, 3)", all.car(1, 3), 0);
    }

    private static void knowing() {
        Edge.of(17, "What it knows (0 at first) is more by the SUM of sees, 0 .. 999 (below is 0, above 999), "
                + "of all CARS that are not TOWED;");
        Check.due("0 at first", one("sees 5;").later(0, 0, 1), 0);
        Check.due("5", one("sees 5;").later(0, 1, 1), 5);
        Check.due("10", one("sees 5;").later(0, 2, 1), 10);
        Check.due("0", one("sees 0;").later(0, 2, 1), 0);
        Check.due("998", one("sees 499;").later(0, 2, 1), 998);
        Check.due("999", one("sees 999;").later(0, 1, 1), 999);
        Check.due("1000", one("sees 1000;").later(0, 1, 1), 999);
        Check.due("1000 by and by", one("sees 500;").later(0, 2, 1), 999);
        Check.due("the greatest SUM", one("sees 9999*9999;").later(0, 3, 1), 999);
        Check.due("below 0", one("sees 0-1;").later(0, 1, 1), 0);
        Check.due("the least SUM", one("sees 0-9999*9999;").later(0, 3, 1), 0);
        CenturyGates two = Check.with(PLACES + "car x at a to b from 0;car y at b to a from 0;car z at a to c from 0;"
                + "sees 7;");
        two.days(3);
        Check.due("the first", two.car(0, 3), 21);
        Check.due("the second", two.car(1, 3), 21);
        Check.due("the one that is TOWED", two.car(2, 3), 0);
    }

    private static void swapping() {
        Edge.of(17, "these change where they are and their goal.");
        CenturyGates x = Check.with(PLACES + "car x at a to b from 0;car z at a to c from 0;");
        for (int day = 1; day <= 3; day++) {
            x.days(1);
            Check.due("where it is", x.car(0, 0), day % 2);
            Check.due("its goal", x.car(0, 1), 1 - day % 2);
            Check.due("where one is that is TOWED", x.car(1, 0), 0);
            Check.due("the goal of one that is TOWED", x.car(1, 1), 2);
        }
    }

    private static void lateness() {
        Edge.of(18, "THEN each ERA is as late as the SUM of late tells, 0 .. 99 (below is 0, above 99).");
        Check.due("0", one("late 0;").late(0, 1), 0);
        Check.due("98", one("late 98;").late(0, 1), 98);
        Check.due("99", one("late 99;").late(0, 1), 99);
        Check.due("100", one("late 100;").late(0, 1), 99);
        Check.due("the greatest SUM", one("late 9999*9999;").late(0, 1), 99);
        Check.due("below 0", one("late 0-1;").late(0, 1), 0);
        Check.due("the least SUM", one("late 0-9999*9999;").late(0, 1), 0);
        CenturyGates x = one("late late+50;");
        Check.due("50 more", x.late(0, 1), 50);
        Check.due("99 at most", x.late(0, 2), 99);
        Check.due("not the SUM but 99 is late then", one("late 150-late;").late(0, 2), 51);
        // THEN: the CARS of this DAY still meet the ERA as it was
        CenturyGates y = one("late 99;");
        Check.due("days(1), behind the old one", y.days(1), 9);
        Check.due("days(1), it sets out in 99", y.days(1), 0);
        Check.due("what it learns comes first", one("late waits;sees day+1;").late(0, 1), 9);
    }

    private static void theDay() {
        Edge.of(18, "The DAY is one more (999 at most; it is 0 at first).");
        CenturyGates x = one("late day;");
        Check.due("0 at first", x.has(6), 0);
        x.days(1);
        Check.due("one more", x.has(6), 1);
        Check.due("late by DAY 0", x.era(0, 3), 0);
        x.days(2);
        Check.due("two more", x.has(6), 3);
        Check.due("late by DAY 2", x.era(0, 3), 2);
        CenturyGates y = Check.with("district 5;");
        Check.due("on(), DAY 998", ImageTest.on(y, 3, 230), true);
        Check.due("days(1)", y.days(1), 0);
        Check.due("999", y.has(6), 999);
        Check.due("days(1)", y.days(1), -1);
        Check.due("999 at most", y.has(6), 999);
    }

    private static void ahead() {
        Edge.of(17, "AHEAD are DAYS as they come from now on without DRAWS (60 at most, not beyond DAY 999).");
        CenturyGates x = one("late late+1;pigs 100;");
        Check.due("late by its SUM alone", x.late(0, 3), 3);
        Check.due("no DRAW was made", x.chance(1), 1);
        Check.due("the first DRAWS are these", x.era(0, 3), Math.min(99, thirdDraw() + 1));
        x.undo();
        Check.due("60", x.late(0, 60), 60);
        Check.due("61", x.late(0, 61), -1);
        CenturyGates y = one("late late+1;");
        Check.due("on(), DAY 940", ImageTest.on(y, 3, 172, 0, 0, 0, 1, 0, 0), true);
        Check.due("to DAY 999", y.late(0, 59), 59);
        Check.due("to DAY 1000", y.late(0, 60), -1);
        Check.due("to DAY 999", y.later(0, 59, 0), 1);
        Check.due("to DAY 1000", y.later(0, 60, 0), -1);
        Check.due("to DAY 1000", y.later(0, 60, 1), -1);
        Check.due("on(), DAY 999", ImageTest.on(y, 3, 231, 0, 5, 0, 1, 0, 7), true);
        Check.due("none", y.late(0, 0), 5);
        Check.due("none", y.later(0, 0, 1), 7);
        Check.due("one", y.late(0, 1), -1);
        Check.due("one", y.later(0, 1, 0), -1);
    }

    /** Of the DRAWS of 100, of 1, of 20 from the seed 1 on. */
    private static int thirdDraw() {
        long seed = 1;
        for (int n = 0; n < 3; n++) {
            seed = (1103515245L * seed + 12345) % (1L << 31);
        }
        return (int) (seed / 64 % 20);
    }

    private static void laterCalls() {
        Edge.of(17, "Of a CAR behind n DAYS AHEAD (0 .. 60): 0 where it is, 1 what it knows.");
        CenturyGates x = one("sees 3;");
        Check.due("later(0, 0, 0)", x.later(0, 0, 0), 0);
        Check.due("later(0, 0, 1)", x.later(0, 0, 1), 0);
        Check.due("later(0, 1, 0)", x.later(0, 1, 0), 1);
        Check.due("later(0, 1, 1)", x.later(0, 1, 1), 3);
        Check.due("later(0, 59, 0)", x.later(0, 59, 0), 1);
        Check.due("later(0, 60, 0)", x.later(0, 60, 0), 0);
        Check.due("later(0, 60, 1)", x.later(0, 60, 1), 180);
        Check.due("nothing has changed", x.has(6) + x.has(8) + x.has(10) + x.car(0, 3) + x.car(0, 0), 0);

        Edge.of(17, "NONE when there is none such, n can't be, or for others.");
        for (int what = 0; what < 2; what++) {
            Check.due("later(-1, 1)", x.later(-1, 1, what), -1);
            Check.due("later(1, 1)", x.later(1, 1, what), -1);
            Check.due("later(0, -1)", x.later(0, -1, what), -1);
            Check.due("later(0, 61)", x.later(0, 61, what), -1);
            Check.due("without a district", new CenturyGates().later(0, 0, what), -1);
            for (int far : FAR) {
                Check.due("later(" + far + ", 1)", x.later(far, 1, what), -1);
                Check.due("later(0, " + far + ")", x.later(0, far, what), -1);
                Check.due("later(0, 1, " + far + ")", x.later(0, 1, far), -1);
            }
        }
        Check.due("later(0, 1, -1)", x.later(0, 1, -1), -1);
        Check.due("later(0, 1, 2)", x.later(0, 1, 2), -1);
        Check.due("later(5) of five", Check.with(TableEdgesTest.FULL).later(5, 0, 0), -1);
    }

    private static void lateCalls() {
        Edge.of(18, "How late an ERA is behind n DAYS AHEAD (0 .. 60);");
        CenturyGates x = one("late late+1;");
        x.hold(0, 5);
        Check.due("late(0, 0)", x.late(0, 0), 5);
        Check.due("late(0, 1)", x.late(0, 1), 6);
        Check.due("late(0, 60)", x.late(0, 60), 65);
        Check.due("nothing has changed", x.era(0, 3) * 10 + x.has(6), 50);

        Edge.of(18, "NONE when there is none such, or n can't be.");
        Check.due("late(-1, 1)", x.late(-1, 1), -1);
        Check.due("late(1, 1)", x.late(1, 1), -1);
        Check.due("late(0, -1)", x.late(0, -1), -1);
        Check.due("late(0, 61)", x.late(0, 61), -1);
        Check.due("late(5) of five", Check.with(TableEdgesTest.FULL).late(5, 0), -1);
        Check.due("without a district", new CenturyGates().late(0, 0), -1);
        for (int far : FAR) {
            Check.due("late(" + far + ", 1)", x.late(far, 1), -1);
            Check.due("late(0, " + far + ")", x.late(0, far), -1);
        }
    }
}
