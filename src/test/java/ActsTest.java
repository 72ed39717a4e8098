/** Promises 26 to 32: ACTS, DAYS by the seed, and undoing them. */
public final class ActsTest {
    public static void main(String[] args) {
        puts();
        holds();
        sends();
        days();
        lastDay();
        chances();
        pigs();
        undoes();
        undoesTwenty();
        seeds();
        Check.finish();
    }

    private static void puts() {
        CenturyGates x = Check.with(Fens.FENS);
        Check.due("put(0, 0), down already", x.put(0, 0), false);
        Check.due("put(0, 2)", x.put(0, 2), false);
        Check.due("put(0, -1)", x.put(0, -1), false);
        Check.due("put(2, 1)", x.put(2, 1), false);
        Check.due("put(-1, 1)", x.put(-1, 1), false);
        Check.due("status(2)", x.status(2), 5);
        Check.due("has(10)", x.has(10), 0);
        Check.due("put(1, 1)", x.put(1, 1), true);
        Check.due("put(1, 1) again", x.put(1, 1), false);
        Check.due("gate(1, 1)", x.gate(1, 1), 1);
        Check.due("has(7)", x.has(7), 1);
        Check.due("put(1, 2) of one that is up", x.put(1, 2), false);
        Check.due("put(1, -1) of one that is up", x.put(1, -1), false);
        Check.due("put(1, 3) of one that is up", x.put(1, 3), false);
        Check.due("put(0, 1)", x.put(0, 1), true);
        Check.due("has(7)", x.has(7), 2);
        Check.due("put(1, 0)", x.put(1, 0), true);
        Check.due("gate(1, 1)", x.gate(1, 1), 0);
        Check.due("gate(0, 1)", x.gate(0, 1), 1);
        Check.due("has(10)", x.has(10), 3);
        Check.due("status(2)", x.status(2), 9);
    }

    private static void holds() {
        CenturyGates x = Check.with(Fens.FENS);
        Check.due("hold(0, 0), so already", x.hold(0, 0), false);
        Check.due("hold(0, 100)", x.hold(0, 100), false);
        Check.due("hold(0, -1)", x.hold(0, -1), false);
        Check.due("hold(2, 1)", x.hold(2, 1), false);
        Check.due("hold(-1, 1)", x.hold(-1, 1), false);
        Check.due("status(2)", x.status(2), 5);
        Check.due("hold(1, 99)", x.hold(1, 99), true);
        Check.due("hold(1, 99) again", x.hold(1, 99), false);
        Check.due("hold(0, 1)", x.hold(0, 1), true);
        Check.due("hold(0, 0)", x.hold(0, 0), true);
        Check.due("era(1, 3)", x.era(1, 3), 99);
        Check.due("era(0, 3)", x.era(0, 3), 0);
        Check.due("has(10)", x.has(10), 3);
    }

    private static void sends() {
        CenturyGates x = Check.with(Fens.FENS);
        Check.due("send(0, 1), its goal", x.send(0, 1), false);
        Check.due("send(0, 0), where it is", x.send(0, 0), false);
        Check.due("send(0, 3)", x.send(0, 3), false);
        Check.due("send(0, -1)", x.send(0, -1), false);
        Check.due("send(2, 0)", x.send(2, 0), false);
        Check.due("send(-1, 0)", x.send(-1, 0), false);
        Check.due("status(2)", x.status(2), 6);
        Check.due("send(0, 2)", x.send(0, 2), true);
        Check.due("car(0, 1)", x.car(0, 1), 2);
        Check.due("has(10)", x.has(10), 1);
        Check.due("send(0, 1)", x.send(0, 1), true);
        x.days(1);
        Check.due("send(0, 0), its goal now", x.send(0, 0), false);
        Check.due("send(0, 1), where it is now", x.send(0, 1), false);
    }

    private static void days() {
        CenturyGates x = Check.with(Fens.LONG_WAIT);
        Check.due("days(0)", x.days(0), -1);
        Check.due("days(41)", x.days(41), -1);
        Check.due("days(-1)", x.days(-1), -1);
        Check.due("days(greatest)", x.days(Integer.MAX_VALUE), -1);
        Check.due("status(3)", x.status(3), 4);
        Check.due("days(40)", x.days(40), 36 * 40);
        Check.due("has(6)", x.has(6), 40);
        Check.due("has(10), one act", x.has(10), 1);
        Check.due("days(1)", x.days(1), 36);
        Check.due("car(0, 0)", x.car(0, 0), 1);
        Check.due("car(0, 1)", x.car(0, 1), 0);
        Check.due("undo()", x.undo(), true);
        Check.due("has(6)", x.has(6), 40);
        CenturyGates none = new CenturyGates();
        Check.due("days(1) without a district", none.days(1), -1);
        Check.due("chance(1) without a district", none.chance(1), -1);
        Check.due("status(3)", none.status(3), 2);
        CenturyGates bare = Check.with("district 5;");
        Check.due("days(3) of nothing", bare.days(3), 0);
        Check.due("has(6)", bare.has(6), 3);
        Check.due("kept(2, 0)", bare.kept(2, 0), 2);
    }

    private static void lastDay() {
        CenturyGates x = Check.with("district 5;");
        Check.due("on()", ImageTest.on(x, 3, 229), true);
        Check.due("has(6)", x.has(6), 997);
        Check.due("days(3)", x.days(3), -1);
        Check.due("chance(3)", x.chance(3), -1);
        Check.due("has(6) stays", x.has(6), 997);
        Check.due("days(1)", x.days(1), 0);
        Check.due("chance(1)", x.chance(1), 0);
        Check.due("has(6)", x.has(6), 999);
        Check.due("days(1)", x.days(1), -1);
        Check.due("chance(1)", x.chance(1), -1);
        Check.due("status(3)", x.status(3), 4);
        Check.due("kept(1, 0)", x.kept(1, 0), 998);
    }

    /** The DRAWS as the document tells them, and what they do to ERAS that nothing else changes. */
    private static void chances() {
        CenturyGates x = Check.with("district 9;era a long 1 pace 1 from 1;era b long 1 pace 1 from 1;"
                + "era c long 1 pace 1 from 1;pigs 40;");
        long[] seed = {1};
        int[] late = new int[3];
        for (int n = 1; n <= 40; n++) {
            if (n == 20) {
                Check.due("seed()", x.seed(Integer.MAX_VALUE), true);
                seed[0] = Integer.MAX_VALUE;
            }
            int times = 0;
            for (int k = 0; k < n; k++) {
                if (draw(seed, 100) < 40) {
                    times++;
                    int era = (int) draw(seed, 3);
                    late[era] = Math.min(99, late[era] + (int) draw(seed, 20));
                }
            }
            Check.due("chance(" + n + ")", x.chance(n), times);
            for (int era = 0; era < 3; era++) {
                Check.due("era(" + era + ", 3)", x.era(era, 3), late[era]);
                if (late[era] > 60) {
                    x.hold(era, 3);
                    late[era] = 3;
                }
            }
        }
        Check.due("chance(0)", x.chance(0), -1);
        Check.due("chance(41)", x.chance(41), -1);
        Check.due("chance(-1)", x.chance(-1), -1);
        Check.due("status(3)", x.status(3), 3);
    }

    private static long draw(long[] seed, int of) {
        seed[0] = (1103515245L * seed[0] + 12345) % (1L << 31);
        return seed[0] / 64 % of;
    }

    private static void pigs() {
        CenturyGates all = Check.with("district 9;era a long 1 pace 1 from 1;pigs 100;");
        Check.due("chance(40), pigs 100", all.chance(40), 40);
        Check.due("99 at most", all.era(0, 3), 99);
        CenturyGates never = Check.with("district 9;era a long 1 pace 1 from 1;pigs 100;pigs 0;");
        Check.due("chance(40), the last one counts", never.chance(40), 0);
        Check.due("not late", never.era(0, 3), 0);
        CenturyGates without = Check.with("district 9;era a long 1 pace 1 from 1;");
        Check.due("chance(40) without pigs", without.chance(40), 0);
        CenturyGates noEras = Check.with("district 9;pigs 100;");
        Check.due("chance(5) without eras", noEras.chance(5), 0);
        // pigs come ahead of the day: it is late already when the cars go
        CenturyGates x = Check.with("district 5;gate g at 0;place a;place b;lane a to b steps 1 over g;"
                + "era e long 1 pace 1 from 0;car c at a to b from 0;shuts all;pigs 100;");
        x.seed(1);
        Check.due("chance(1)", x.chance(1), 1);
        int late = x.era(0, 3);
        Check.due("it is late", late > 0, true);
        Check.due("what was waited", x.kept(0, 1), 0);
        Check.due("has(10)", x.has(10), 1);
    }

    private static void undoes() {
        CenturyGates x = Check.with(Fens.FENS);
        Check.due("undo()", x.undo(), false);
        Check.due("status(4)", x.status(4), 1);
        x.put(0, 1);
        x.hold(1, 7);
        x.send(0, 2);
        x.days(2);
        x.chance(3);
        Check.due("has(10)", x.has(10), 5);
        Check.due("has(8)", x.has(8), 5);
        Check.due("undo() of chance", x.undo(), true);
        Check.due("has(6)", x.has(6), 2);
        Check.due("has(8)", x.has(8), 2);
        Check.due("undo() of days", x.undo(), true);
        Check.due("has(6)", x.has(6), 0);
        Check.due("has(8)", x.has(8), 0);
        Check.due("car(0, 0)", x.car(0, 0), 0);
        Check.due("car(0, 1)", x.car(0, 1), 2);
        Check.due("car(1, 3)", x.car(1, 3), 0);
        Check.due("era(1, 3)", x.era(1, 3), 7);
        Check.due("undo() of send", x.undo(), true);
        Check.due("car(0, 1)", x.car(0, 1), 1);
        Check.due("gate(0, 1)", x.gate(0, 1), 1);
        Check.due("undo() of hold", x.undo(), true);
        Check.due("era(1, 3)", x.era(1, 3), 0);
        Check.due("undo() of put", x.undo(), true);
        Check.due("gate(0, 1)", x.gate(0, 1), 0);
        Check.due("undo()", x.undo(), false);
        Check.due("status(4)", x.status(4), 2);
        // the seed stays: the same chance again draws on
        CenturyGates y = Check.with("district 9;era a long 1 pace 1 from 1;pigs 50;");
        long[] seed = {1};
        for (int n = 0; n < 30; n++) {
            int late = 0;
            int times = 0;
            for (int k = 0; k < 2; k++) {
                if (draw(seed, 100) < 50) {
                    times++;
                    draw(seed, 1);
                    late += (int) draw(seed, 20);
                }
            }
            Check.due("chance(2)", y.chance(2), times);
            Check.due("era(0, 3)", y.era(0, 3), late);
            Check.due("undo()", y.undo(), true);
        }
        y.seed(1);
        y.put(0, 1);
        Check.due("no act is refused or a seed", y.has(10), 0);
    }

    private static void undoesTwenty() {
        CenturyGates x = Check.with("district 9;era a long 1 pace 1 from 1;");
        for (int late = 1; late <= 25; late++) {
            x.hold(0, late);
            Check.due("has(10)", x.has(10), Math.min(20, late));
        }
        for (int late = 24; late >= 5; late--) {
            Check.due("undo()", x.undo(), true);
            Check.due("era(0, 3)", x.era(0, 3), late);
        }
        Check.due("undo() of the 21st", x.undo(), false);
        Check.due("era(0, 3)", x.era(0, 3), 5);
        x.hold(0, 9);
        Check.due("has(10)", x.has(10), 1);
        Check.due("undo()", x.undo(), true);
        Check.due("era(0, 3)", x.era(0, 3), 5);
    }

    private static void seeds() {
        CenturyGates x = new CenturyGates();
        Check.due("seed(0)", x.seed(0), true);
        Check.due("seed(-1)", x.seed(-1), false);
        Check.due("seed(least)", x.seed(Integer.MIN_VALUE), false);
        Check.due("status(5)", x.status(5), 2);
        // the seed stays with a district: from 0 it draws 12345 / 64 = 192, of 100 it is 92
        for (int pigs = 92; pigs <= 93; pigs++) {
            x.seed(0);
            Check.tell(x, "district 9;era a long 1 pace 1 from 1;pigs " + pigs + ";");
            Check.due("chance(1), pigs " + pigs, x.chance(1), pigs - 92);
        }
        // 1 at first: (1103515245 + 12345) / 64 = 17242618, of 100 it is 18
        for (int pigs = 18; pigs <= 19; pigs++) {
            CenturyGates y = Check.with("district 9;era a long 1 pace 1 from 1;pigs " + pigs + ";");
            Check.due("chance(1), pigs " + pigs, y.chance(1), pigs - 18);
        }
    }
}
