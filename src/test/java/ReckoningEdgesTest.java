/** How TEST and SUM reckon (section I), sentence by sentence, by what GATES (13) and ERAS (18), CARS (17) become. */
public final class ReckoningEdgesTest {
    public static void main(String[] args) {
        tests();
        sums();
        fromTheLeft();
        division();
        bounds();
        partsOfShuts();
        whoseWords();
        partsOfLate();
        partsOfSees();
        without();
        Edge.finish(13, 17, 18);
    }

    /** Whether the TEST holds for an ERA long 3, pace 2, from 10 in minute 14 (its head at 8), a GATE at 5. */
    private static void holds(String test, boolean want) {
        CenturyGates x = Check.with("district 30;gate g at 5;era e long 3 pace 2 from 10;shuts " + test + ";");
        Check.due("shuts " + test, x.closed(0, 14), want ? 1 : 0);
    }

    /** What the SUM is, by three rules: of shuts, late (kept within 0 .. 99) and sees (kept within 0 .. 999). */
    private static void is(String sum, int want) {
        String number = want < 0 ? "0-" + -want / 1000 + "*1000-" + -want % 1000 : want / 1000 + "*1000+" + want % 1000;
        holds(sum + "=" + number, true);
        CenturyGates x = Check.with("district 5;place p;place q;road p to q steps 1;car c at p to q from 0;"
                + "era e long 1 pace 1 from 0;late " + sum + ";sees " + sum + ";");
        Check.due("late " + sum, x.late(0, 1), Math.max(0, Math.min(99, want)));
        Check.due("sees " + sum, x.later(0, 1, 1), Math.max(0, Math.min(999, want)));
    }

    private static void tests() {
        Edge.of(13, "TEST: BOTH { or BOTH }. BOTH: FACT { and FACT }. FACT: not FACT; [ TEST ] ; all; SUM SIGN SUM, "
                + "SIGN < or > or = .");
        holds("all", true);
        holds("not all", false);
        holds("not not all", true);
        holds("1<2", true);
        holds("2<2", false);
        holds("3<2", false);
        holds("1>2", false);
        holds("2>2", false);
        holds("3>2", true);
        holds("1=2", false);
        holds("2=2", true);
        holds("3=2", false);
        holds("all or all and not all", true);
        holds("not all and all or all", true);
        holds("[all or all] and not all", false);
        holds("not all and [all or all]", false);
        holds("not all or all", true);
        holds("not [all or all]", false);
        holds("not 1<2 or 2=2", true);
        holds("not all or not all or not all", false);
        holds("not all or not all or all", true);
        holds("all and all and not all", false);
        holds("all and all and all", true);
        holds("all and 1<2", true);
        holds("1<2 and all", true);
        holds("all and 2<1", false);
        holds("2<1 or all", true);
        holds("[all] and not [not 1<2]", true);
    }

    private static void sums() {
        Edge.of(18, "SUM: PRODUCT { + or - PRODUCT }. PRODUCT: PART { * or / PART }. PART: N (1 to 4 digits); ( SUM ) ; "
                + "min ( SUM , SUM ) ; max ( SUM , SUM ) ;");
        is("0", 0);
        is("00", 0);
        is("0007", 7);
        is("999", 999);
        is("9999", 9999);
        is("(5)", 5);
        is("((((((5))))))", 5);
        is("1+2-3*4/5", 1);
        is("min(7,7)", 7);
        is("min(6,7)", 6);
        is("min(7,6)", 6);
        is("max(7,7)", 7);
        is("max(6,7)", 7);
        is("max(7,6)", 7);
        is("min(0-1,0-2)", -2);
        is("max(0-1,0-2)", -1);
        is("min(1+2*3,max(4,5)*2)", 7);
        Check.faultAt("district 9;late 9999^0;", 1);
        Check.faultAt("district 9;late ^;", 1);
        // the longest that a tape can hold
        String rule = "district 9;place p;place q;road p to q steps 1;car c at p to q from 0;sees 1";
        int times = (1600 - rule.length() - 1) / 2;
        Check.due("a SUM of " + times, Check.with(rule + "+1".repeat(times) + ";").later(0, 1, 1), 1 + times);
    }

    private static void fromTheLeft() {
        Edge.of(18, "All from the left on;");
        is("10-3-2", 5);
        is("10-3+2", 9);
        is("100/10/5", 2);
        is("7/2*2", 6);
        is("2*7/2", 7);
        is("2+3*4", 14);
        is("3*4+2", 14);
        is("20-3*4", 8);
        is("(2+3)*4", 20);
        is("20-(3-4)", 21);
        is("100/(10/5)", 50);
        is("min(3,4)+max(3,4)*2", 11);
        is("min(4,3)-max(4,3)", -1);
        // the first sum is kept at 10 to the 6 ahead of the difference
        is("1000*1000+1000-1000", 999000);
        is("1000*1000-1000+1000", 1000000);
        is("1000*1000*10/1000", 1000);
        is("1000*1000/1000*10", 10000);
    }

    private static void division() {
        Edge.of(18, "/ gives the greatest whole number not above,");
        is("7/2", 3);
        is("8/2", 4);
        is("1/2", 0);
        is("0/5", 0);
        is("(0-7)/2", -4);
        is("(0-8)/2", -4);
        is("(0-1)/9999", -1);
        is("7/(0-2)", -4);
        is("1/(0-9999)", -1);
        is("(0-7)/(0-2)", 3);
        is("(0-1)/(0-2)", 0);
        is("0/(0-3)", 0);
        is("0-7/2", -3);
        is("(0-1000*1000)/(0-1)", 1000000);

        Edge.of(18, "by 0 it gives 0;");
        is("7/0", 0);
        is("0/0", 0);
        is("(0-7)/0", 0);
        is("7/(3-3)", 0);
        is("1+7/0*9", 1);
    }

    private static void bounds() {
        Edge.of(18, "each sum, difference, product above 10 to the 6 is that,");
        is("999*1000+999+1", 1000000);
        is("1000*1000+0", 1000000);
        is("1000*1000+1", 1000000);
        is("1000*1000+1-1", 999999);
        is("1000*1000-(0-1)", 1000000);
        is("1000*1000-(0-9999)", 1000000);
        is("1000*1000", 1000000);
        is("1000*1001", 1000000);
        is("9999*9999", 1000000);
        is("9999*9999*9999", 1000000);
        is("(0-9999)*(0-9999)", 1000000);
        is("(0-1000)*(0-1000)-1", 999999);
        is("9999*9999/1000", 1000);
        is("9999*9999-9999*9999", 0);

        Edge.of(18, "below -10 to the 6 likewise.");
        is("0-1000*1000", -1000000);
        is("0-1000*1000-1", -1000000);
        is("0-1000*1000-1+1", -999999);
        is("0-1000*1000+(0-1)", -1000000);
        is("(0-1000)*1000", -1000000);
        is("(0-1000)*1001", -1000000);
        is("9999*(0-9999)", -1000000);
        is("(0-9999)*9999*9999", -1000000);
        is("(0-9999)*9999/1000", -1000);
        is("(0-9999)*9999+9999*9999", 0);
    }

    private static void partsOfShuts() {
        Edge.of(13, "in shuts: ahead; behind; long; pace; minute;");
        holds("ahead=0-3", true);
        holds("behind=0", true);
        holds("long=3", true);
        holds("pace=2", true);
        holds("minute=14", true);

        Edge.of(13, "(How many miles the GATE is ahead of the head of the ERA, how many the tail is beyond the GATE, "
                + "below 0 if not;");
        // pace 1 from 0, long 2: the head is at the minute's mile, the tail two behind it, the gate at 4
        for (int minute = 0; minute <= 8; minute++) {
            String both = "ahead+100=" + (104 - minute) + " and behind+100=" + (100 + minute - 6);
            CenturyGates x = Check.with("district 6;gate g at 4;era e long 2 pace 1 from 0;shuts " + both + ";");
            Check.due(both, x.closed(0, minute), 1);
            Check.due("once", x.closings(0, 2) - x.closings(0, 1), 0);
        }
    }

    private static void whoseWords() {
        Edge.of(18, "of the ERA; the MINUTE; how late it is; the DAY;");
        // two ERAS at the same miles, each alone as long, as fast, as late as its own words tell
        CenturyGates x = Check.with("district 60;gate g at 0;era e long 30 pace 1 from 0;era f long 1 pace 9 from 0;"
                + "shuts long=30 and minute=50 or pace=9 and minute=6;late long*10+pace+late;");
        Check.due("long of the one that is ON the line in 50", x.closed(0, 50), 1);
        Check.due("pace of the one that is ON the line in 6", x.closed(0, 6), 1);
        Check.due("the MINUTE, no other", x.closings(0, 0), 2);
        Check.due("99 at most", x.late(0, 1), 99);
        Check.due("10 and 9, twice", x.late(1, 2), 38);
        x.hold(0, 0);
        x.hold(1, 1);
        Check.due("in 7, 1 later, it is none of these", x.closed(0, 7), 0);
        Check.due("the MINUTE does not go with how late it is", x.closed(0, 6), 1);
        CenturyGates y = Check.with("district 9;place p;place q;road p to q steps 1;car c at p to q from 0;"
                + "era e long 1 pace 1 from 0;late day;sees day;");
        Check.due("on(), DAY 98", ImageTest.on(y, 0, 98, 0, 0, 1, 0, 0), true);
        y.days(1);
        Check.due("how late by DAY 98", y.era(0, 3), 98);
        Check.due("what it knows by DAY 98", y.car(0, 3), 98);
        Check.due("on(), DAY 998", ImageTest.on(y, 3, 230, 0, 0, 1, 0, 0), true);
        y.days(1);
        Check.due("how late by DAY 998", y.era(0, 3), 99);
        Check.due("what it knows by DAY 998", y.car(0, 3), 998);
    }

    /** The GATE is closed in the minutes 0 .. 8: one CAR waits 9, another one 7, a third is TOWED. */
    private static CenturyGates waiting(String rules) {
        return Check.with("district 5;gate g at 0;place p;place q;place r;lane p to q steps 1 over g;"
                + "era e long 3 pace 1 from 0;car c at p to q from 0;car d at q to p from 2;car f at p to r from 0;"
                + "shuts all;" + rules);
    }

    private static void partsOfLate() {
        Edge.of(18, "in late: late; long; pace; day; waits;");
        CenturyGates x = Check.with("district 9;era e long 30 pace 9 from 0;era f long 2 pace 5 from 0;late long+pace;");
        Check.due("of the ERA", x.late(0, 1), 39);
        Check.due("of the other one", x.late(1, 1), 7);
        CenturyGates y = Check.with("district 9;era e long 1 pace 1 from 0;era f long 1 pace 1 from 0;late late+1;");
        y.hold(1, 50);
        Check.due("how late it is", y.late(0, 2), 2);
        Check.due("how late the other one is", y.late(1, 2), 52);
        CenturyGates z = Check.with("district 9;era e long 1 pace 1 from 0;late day+1;");
        Check.due("the first DAY is 0", z.late(0, 1), 1);
        Check.due("the third DAY is 2", z.late(0, 3), 3);

        Edge.of(18, "how many MINUTES all CARS waited in it together,");
        Check.due("9 and 7, and none of the one that is TOWED", waiting("late waits;").late(0, 1), 16);
        Check.due("none without CARS", Check.with("district 9;era e long 1 pace 1 from 0;late waits+5;").late(0, 1), 5);
    }

    private static void partsOfSees() {
        Edge.of(17, "in sees: waits; knows; day.");
        CenturyGates x = waiting("sees waits*10+day;");
        Check.due("knows", x.later(0, 2, 1), 90 + 90 + 1);
        CenturyGates y = waiting("sees knows+1;");
        Check.due("knows 0, 1, 3, 7", y.later(0, 3, 1), 7);

        Edge.of(17, "in sees that CAR; how much it knows.)");
        Check.due("of the first", x.later(0, 1, 1), 90);
        Check.due("of the second", x.later(1, 1, 1), 70);
        CenturyGates z = waiting("sees waits+knows*day;");
        Check.due("of the first", z.later(0, 2, 1), 9 + 9 + 9);
        Check.due("of the second", z.later(1, 2, 1), 7 + 7 + 7);
    }

    private static void without() {
        Edge.of(13, "Without: shuts is ahead<3 and behind<1, late is late, sees is waits.");
        // the head at 8 is 2 miles away, at 14 the tail is at the gate
        CenturyGates x = Check.with("district 30;gate g at 10;era e long 4 pace 1 from 0;");
        for (int minute = 0; minute < 40; minute++) {
            Check.due("closed(0, " + minute + ")", x.closed(0, minute), minute >= 8 && minute <= 14 ? 1 : 0);
        }
        x.hold(0, 7);
        Check.due("late is late", x.late(0, 5), 7);
        CenturyGates y = waiting("");
        Check.due("sees is waits", y.later(0, 2, 1), 18);
        Check.due("sees is waits", y.later(1, 1, 1), 7);
        CenturyGates z = Check.with("district 30;gate g at 10;era e long 4 pace 1 from 0;late 5;sees 1;");
        Check.due("the one without holds with the others", z.closed(0, 14) * 10 + z.closed(0, 15), 10);
    }
}
