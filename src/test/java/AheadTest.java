/** Promises 17 and 18: DAYS as they come, without DRAWS; and what a DAY does. */
public final class AheadTest {
    public static void main(String[] args) {
        fens();
        edges();
        knowing();
        lateness();
        Check.finish();
    }

    private static void fens() {
        CenturyGates x = Check.with(Fens.FENS);
        Check.due("later(0, 0, 0)", x.later(0, 0, 0), 0);
        Check.due("later(0, 0, 1)", x.later(0, 0, 1), 0);
        Check.due("later(0, 1, 0)", x.later(0, 1, 0), 1);
        Check.due("later(0, 1, 1)", x.later(0, 1, 1), 1);
        Check.due("later(0, 2, 0)", x.later(0, 2, 0), 0);
        Check.due("later(0, 2, 1)", x.later(0, 2, 1), 8);
        Check.due("later(1, 3, 0)", x.later(1, 3, 0), 2);
        Check.due("later(1, 3, 1)", x.later(1, 3, 1), 13);
        Check.due("late(0, 0)", x.late(0, 0), 0);
        Check.due("late(0, 1)", x.late(0, 1), 0);
        Check.due("late(0, 2)", x.late(0, 2), 2);
        Check.due("late(1, 3)", x.late(1, 3), 3);
        Check.due("has(6) stays", x.has(6), 0);
        Check.due("has(8) stays", x.has(8), 0);
        Check.due("has(10) stays", x.has(10), 0);
        int[] knows = new int[61];
        int[] at = new int[61];
        int[] late = new int[61];
        for (int n = 0; n <= 60; n++) {
            knows[n] = x.later(1, n, 1);
            at[n] = x.later(1, n, 0);
            late[n] = x.late(1, n);
        }
        for (int n = 1; n <= 60; n++) {
            x.days(1);
            Check.due("car(1, 3) on day " + n, x.car(1, 3), knows[n]);
            Check.due("car(1, 0) on day " + n, x.car(1, 0), at[n]);
            Check.due("era(1, 3) on day " + n, x.era(1, 3), late[n]);
        }
    }

    private static void edges() {
        CenturyGates x = Check.with(Fens.FENS);
        Check.due("later(2, 1, 0)", x.later(2, 1, 0), -1);
        Check.due("later(-1, 1, 0)", x.later(-1, 1, 0), -1);
        Check.due("later(0, -1, 0)", x.later(0, -1, 0), -1);
        Check.due("later(0, 61, 0)", x.later(0, 61, 0), -1);
        Check.due("later(0, 60, 0)", x.later(0, 60, 0) >= 0, true);
        Check.due("later(0, 1, 2)", x.later(0, 1, 2), -1);
        Check.due("later(0, 1, -1)", x.later(0, 1, -1), -1);
        Check.due("later(0, greatest, 0)", x.later(0, Integer.MAX_VALUE, 0), -1);
        Check.due("late(2, 1)", x.late(2, 1), -1);
        Check.due("late(-1, 1)", x.late(-1, 1), -1);
        Check.due("late(0, -1)", x.late(0, -1), -1);
        Check.due("late(0, 61)", x.late(0, 61), -1);
        Check.due("late(0, least)", x.late(0, Integer.MIN_VALUE), -1);
        CenturyGates y = Check.with("district 5;place a;place b;road a to b steps 1;car c at a to b from 0;"
                + "era e long 1 pace 1 from 0;");
        // day 939, not late, a to b, knows 0
        Check.due("on()", ImageTest.on(y, 3, 171, 0, 0, 1, 0, 0), true);
        Check.due("has(6)", y.has(6), 939);
        Check.due("later(0, 60, 0), to day 999", y.later(0, 60, 0), 0);
        y.days(1);
        Check.due("later(0, 59, 0), to day 999", y.later(0, 59, 0), 0);
        Check.due("later(0, 60, 0), beyond", y.later(0, 60, 0), -1);
        Check.due("late(0, 60), beyond", y.late(0, 60), -1);
        Check.due("late(0, 59)", y.late(0, 59), 0);
    }

    private static int knows(String sees, int n) {
        return Check.with("district 5;gate g at 0;place a;place b;lane a to b steps 1 over g;"
                + "era e long 3 pace 1 from 0;car c at a to b from 1;shuts all;sees " + sees + ";").later(0, n, 1);
    }

    /** The GATE is closed in the MINUTES 0 .. 8, so that the CAR waits 8 each DAY. */
    private static void knowing() {
        Check.due("waits", knows("waits", 1), 8);
        Check.due("waits twice", knows("waits", 2), 16);
        Check.due("day is the day that goes", knows("day+1", 3), 1 + 2 + 3);
        Check.due("knows is what it knew", knows("knows+1", 4), 15);
        Check.due("999 at most", knows("9999", 1), 999);
        Check.due("999 at most, by and by", knows("400", 3), 999);
        Check.due("0 at least", knows("0-5", 3), 0);
        Check.due("it may become less", knows("10-day*6", 4), 4);
        Check.due("without a rule", Check.with("district 5;gate g at 0;place a;place b;lane a to b steps 1 over g;"
                + "era e long 3 pace 1 from 0;car c at a to b from 1;shuts all;").later(0, 3, 1), 24);
        CenturyGates x = Check.with("district 5;place a;place b;place c;road a to b steps 1;"
                + "car x at a to b from 0;car y at a to c from 0;sees 3;");
        Check.due("a towed car stays", x.later(1, 3, 0), 0);
        Check.due("a towed car learns nothing", x.later(1, 3, 1), 0);
        Check.due("another goes", x.later(0, 3, 0), 1);
        Check.due("another learns", x.later(0, 3, 1), 9);
        x.days(1);
        Check.due("its goal is where it was", x.car(0, 1), 0);
        Check.due("a towed car's goal stays", x.car(1, 1), 2);
    }

    private static int late(String rule, int n) {
        return Check.with("district 5;gate g at 0;place a;place b;lane a to b steps 1 over g;"
                + "era e long 3 pace 2 from 0;car c at a to b from 0;car d at b to a from 1;shuts minute<5;"
                + "late " + rule + ";").late(0, n);
    }

    /** The ERA closes the GATE in the MINUTES 0 .. 4 on its first DAY: the CARS wait 5 and 4. */
    private static void lateness() {
        Check.due("it stays without a rule", Check.with("district 5;era e long 1 pace 1 from 0;").late(0, 9), 0);
        Check.due("long*10+pace", late("long*10+pace", 1), 32);
        Check.due("all cars' waits", late("waits", 1), 9);
        Check.due("late+1", late("late+1", 3), 3);
        Check.due("the day that goes", late("day*10+1", 3), 21);
        Check.due("99 at most", late("100", 1), 99);
        Check.due("0 at least", late("0-1", 1), 0);
        CenturyGates x = Check.with("district 5;era e long 1 pace 1 from 0;era f long 2 pace 1 from 0;"
                + "late late*2+long;");
        Check.due("each by its own", x.late(0, 3), 7);
        Check.due("each by its own", x.late(1, 3), 14);
    }
}
