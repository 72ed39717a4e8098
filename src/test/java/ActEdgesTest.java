/** Promises 26 to 32, and the ACTS of section II, sentence by sentence. */
public final class ActEdgesTest {
    private static final int[] FAR = {Integer.MIN_VALUE, -200, 1000, Integer.MAX_VALUE};

    /** Two GATES, three PLACES, two ERAS, two CARS. */
    private static final String TWO = "district 9;gate g at 1;gate h at 2;place a;place b;place c;road a to b steps 1;"
            + "era e long 1 pace 1 from 0;era f long 1 pace 1 from 1;car x at a to b from 0;car y at b to c from 0;";

    public static void main(String[] args) {
        puts();
        holds();
        sends();
        days();
        chances();
        draws();
        whatIsAnAct();
        undoes();
        seeds();
        Edge.finish(26, 27, 28, 29, 30, 31, 32);
    }

    private static void actCounts(CenturyGates x, boolean good, int acts, int refused) {
        Check.due("has(10)", x.has(10), good ? Math.min(20, acts + 1) : acts);
        Check.due("status(2)", x.status(2), good ? refused : refused + 1);
    }

    private static void put(CenturyGates x, int gate, int on, boolean want) {
        int acts = x.has(10);
        int refused = x.status(2);
        Check.due("put(" + gate + ", " + on + ")", x.put(gate, on), want);
        actCounts(x, want, acts, refused);
    }

    private static void puts() {
        Edge.of(26, "A GATE is put UP (on 1), or down (0): true;");
        CenturyGates x = Check.with(TWO);
        put(x, 1, 1, true);
        Check.due("gate(1, 1)", x.gate(1, 1), 1);
        Check.due("gate(0, 1)", x.gate(0, 1), 0);
        put(x, 1, 0, true);
        Check.due("gate(1, 1)", x.gate(1, 1), 0);
        Check.due("has(7)", x.has(7), 0);

        Edge.of(26, "false, refused (2), when it is so already, there is none such, or for others.");
        put(x, 0, 0, false);
        put(x, 0, 1, true);
        put(x, 0, 1, false);
        put(x, 2, 1, false);
        put(x, -1, 1, false);
        put(x, 2, 0, false);
        for (int gate = 0; gate < 2; gate++) {
            for (int on : new int[] {-1, 2, 3, -2}) {
                put(x, gate, on, false);
            }
            for (int far : FAR) {
                put(x, gate, far, false);
                put(x, far, gate, false);
            }
        }
        Check.due("has(7)", x.has(7), 1);
        put(Check.with(TableEdgesTest.FULL), 5, 1, true);
        put(Check.with(TableEdgesTest.FULL), 6, 1, false);
        put(new CenturyGates(), 0, 1, false);
    }

    private static void hold(CenturyGates x, int era, int late, boolean want) {
        int acts = x.has(10);
        int refused = x.status(2);
        Check.due("hold(" + era + ", " + late + ")", x.hold(era, late), want);
        actCounts(x, want, acts, refused);
    }

    private static void holds() {
        Edge.of(27, "An ERA is held back (0 .. 99): true;");
        CenturyGates x = Check.with(TWO);
        hold(x, 0, 1, true);
        hold(x, 0, 0, true);
        Check.due("era(0, 3)", x.era(0, 3), 0);
        hold(x, 1, 99, true);
        Check.due("era(1, 3)", x.era(1, 3), 99);
        Check.due("era(0, 3)", x.era(0, 3), 0);
        hold(x, 1, 98, true);

        Edge.of(27, "false, refused (2), when it is so late, there is none such, or for others.");
        hold(x, 0, 0, false);
        hold(x, 1, 98, false);
        hold(x, 1, 100, false);
        hold(x, 1, -1, false);
        hold(x, 2, 5, false);
        hold(x, -1, 5, false);
        hold(Check.with(TableEdgesTest.FULL), 4, 5, true);
        hold(Check.with(TableEdgesTest.FULL), 5, 5, false);
        hold(new CenturyGates(), 0, 1, false);
        for (int far : FAR) {
            hold(x, far, 5, false);
            hold(x, 0, far, false);
        }
        Check.due("era(1, 3)", x.era(1, 3), 98);
    }

    private static void send(CenturyGates x, int car, int place, boolean want) {
        int acts = x.has(10);
        int refused = x.status(2);
        Check.due("send(" + car + ", " + place + ")", x.send(car, place), want);
        actCounts(x, want, acts, refused);
    }

    private static void sends() {
        Edge.of(28, "A CAR has another goal: true;");
        CenturyGates x = Check.with(TWO);
        send(x, 0, 2, true);
        Check.due("car(0, 1)", x.car(0, 1), 2);
        Check.due("car(1, 1)", x.car(1, 1), 2);
        send(x, 1, 0, true);
        Check.due("car(1, 1)", x.car(1, 1), 0);
        Check.due("car(1, 0)", x.car(1, 0), 1);

        Edge.of(28, "false, refused (2), when it is that, or where it is, or there are none such.");
        send(x, 0, 2, false);
        send(x, 0, 0, false);
        send(x, 0, 3, false);
        send(x, 0, -1, false);
        send(x, 2, 1, false);
        send(x, -1, 1, false);
        send(Check.with(TableEdgesTest.FULL), 4, 6, true);
        send(Check.with(TableEdgesTest.FULL), 4, 7, false);
        send(Check.with(TableEdgesTest.FULL), 5, 0, false);
        send(new CenturyGates(), 0, 0, false);
        for (int far : FAR) {
            send(x, far, 1, false);
            send(x, 0, far, false);
        }
        send(x, 0, 1, true);
        x.days(1);
        send(x, 0, 1, false);
        send(x, 0, 0, false);
        send(x, 0, 2, true);
    }

    private static void refusedDays(CenturyGates x, int n) {
        int day = x.has(6);
        int acts = x.has(10);
        int refused = x.status(3);
        Check.due("days(" + n + ")", x.days(n), -1);
        Check.due("chance(" + n + ")", x.chance(n), -1);
        Check.due("status(3)", x.status(3), refused + 2);
        Check.due("has(6)", x.has(6), day);
        Check.due("has(10)", x.has(10), acts);
    }

    private static void days() {
        Edge.of(29, "n DAYS (1 .. 40): how many MINUTES were waited;");
        CenturyGates x = Check.with(Fens.LONG_WAIT);
        Check.due("days(1)", x.days(1), 36);
        Check.due("has(6)", x.has(6), 1);
        Check.due("days(40)", x.days(40), 40 * 36);
        Check.due("has(6)", x.has(6), 41);
        Check.due("days(2)", x.days(2), 72);
        x.put(0, 1);
        Check.due("days(2), UP", x.days(2), 0);
        Check.due("one ACT each", x.has(10), 5);

        Edge.of(29, "NONE, refused (3), when it can't be, or without a district.");
        for (int n : new int[] {0, -1, 41, 42}) {
            refusedDays(x, n);
        }
        for (int far : FAR) {
            refusedDays(x, far);
        }
        refusedDays(new CenturyGates(), 1);
        CenturyGates y = Check.with("district 5;");
        Check.due("on(), DAY 960", ImageTest.on(y, 3, 192), true);
        refusedDays(y, 40);
        Check.due("days(39), to DAY 999", y.days(39), 0);
        refusedDays(y, 1);
        y.undo();
        Check.due("undone", y.has(6), 960);
        Check.due("days(1)", y.days(1), 0);
    }

    private static long draw(long[] seed, int of) {
        seed[0] = (1103515245L * seed[0] + 12345) % (1L << 31);
        return seed[0] / 64 % of;
    }

    private static void chances() {
        Edge.of(30, "DAYS by the seed: ahead of each a DRAW of 100: below pigs, if there are ERAS, a DRAW of these, "
                + "a DRAW of 20: it is so much later (99 at most).");
        // from 0 the first DRAW of 100 is 92
        for (int pigs = 91; pigs <= 94; pigs++) {
            CenturyGates x = Check.with(TWO + "pigs " + pigs + ";");
            x.seed(0);
            Check.due("pigs " + pigs, x.chance(1), 92 < pigs ? 1 : 0);
        }
        long[] seed = {5};
        CenturyGates y = Check.with(TWO + "pigs 60;");
        y.seed(5);
        int[] late = new int[2];
        for (int day = 0; day < 60; day++) {
            int pigs = draw(seed, 100) < 60 ? 1 : 0;
            if (pigs == 1) {
                int era = (int) draw(seed, 2);
                late[era] = Math.min(99, late[era] + (int) draw(seed, 20));
            }
            Check.due("chance(1)", y.chance(1), pigs);
            Check.due("era(0, 3)", y.era(0, 3), late[0]);
            Check.due("era(1, 3)", y.era(1, 3), late[1]);
        }
        Check.due("99 at most", Math.max(late[0], late[1]), 99);
        CenturyGates none = Check.with("district 5;pigs 100;");
        Check.due("without ERAS", none.chance(3), 0);
        Check.tell(none, TWO + "pigs 100;");
        none.chance(1);
        long[] next = {1};
        draw(next, 100);
        draw(next, 100);
        draw(next, 100);
        draw(next, 100);
        int era = (int) draw(next, 2);
        Check.due("three DRAWS were made without ERAS", none.era(era, 3), draw(next, 20));
        Check.due("the other one is not late", none.era(1 - era, 3), 0);

        Edge.of(30, "n DAYS by the seed (1 .. 40), one ACT: how many times there were pigs;");
        CenturyGates x = Check.with(TWO + "pigs 100;");
        Check.due("chance(1)", x.chance(1), 1);
        Check.due("has(10)", x.has(10), 1);
        Check.due("chance(40)", x.chance(40), 40);
        Check.due("has(6)", x.has(6), 41);
        Check.due("has(10)", x.has(10), 2);
        Check.due("undo()", x.undo(), true);
        Check.due("has(6)", x.has(6), 1);

        Edge.of(30, "NONE, refused (3), when it can't be, or without a district.");
        for (int n : new int[] {0, -1, 41, 42}) {
            refusedDays(x, n);
        }
        for (int far : FAR) {
            refusedDays(x, far);
        }
        refusedDays(new CenturyGates(), 1);
        CenturyGates last = Check.with("district 5;");
        Check.due("on(), DAY 998", ImageTest.on(last, 3, 230), true);
        refusedDays(last, 2);
        Check.due("chance(1), to DAY 999", last.chance(1), 0);
        refusedDays(last, 1);
        // one that is refused makes no DRAW
        CenturyGates drawn = Check.with("district 5;era e long 1 pace 1 from 0;pigs 100;");
        drawn.chance(0);
        drawn.chance(41);
        drawn.chance(1);
        long[] first = {1};
        draw(first, 100);
        draw(first, 1);
        Check.due("the first DRAWS", drawn.era(0, 3), draw(first, 20));
    }

    private static void draws() {
        Edge.of(30, "A DRAW of m: x (the seed) becomes (1103515245 x + 12345) mod 2 to the 31; floor(x / 64) mod m.");
        for (int from : new int[] {0, 1, 2, 63, 64, 12345, 1 << 30, Integer.MAX_VALUE - 1, Integer.MAX_VALUE}) {
            CenturyGates x = Check.with(TWO + "pigs 100;");
            x.seed(from);
            x.chance(1);
            long[] seed = {from};
            draw(seed, 100);
            int era = (int) draw(seed, 2);
            Check.due("from " + from, x.era(era, 3), draw(seed, 20));
            Check.due("the other one from " + from, x.era(1 - era, 3), 0);
        }
    }

    private static void whatIsAnAct() {
        Edge.of(31, "ACTS: a GATE is put UP, or down; an ERA is held back (it is so late); a CAR has another goal; DAYS; "
                + "DAYS by the seed:");
        CenturyGates x = Check.with(TWO);
        x.put(0, 1);
        x.put(0, 0);
        x.hold(0, 7);
        Check.due("it is so late", x.era(0, 3), 7);
        x.hold(0, 3);
        Check.due("it is so late, not so much later", x.era(0, 3), 3);
        x.send(0, 2);
        x.days(3);
        x.chance(3);
        Check.due("seven ACTS", x.has(10), 7);
        Check.feed(x, 1, 0, 0);
        x.see();
        x.seed(5);
        x.image();
        Check.asks(x, "often all", 2);
        x.later(0, 60, 0);
        x.late(0, 60);
        x.lift(0, 9);
        x.tells(0, 0);
        Check.due("none of these is one", x.has(10), 7);
        x.put(0, 0);
        x.hold(0, 3);
        x.send(0, 2);
        x.days(41);
        x.chance(0);
        x.on();
        x.district();
        Check.due("nor is what was refused", x.has(10), 7);
        int[] days = {3, 0, 0, 0, 0, 0, 0};
        for (int n = 0; n < 7; n++) {
            Check.due("undo()", x.undo(), true);
            Check.due("has(6)", x.has(6), days[n]);
        }
        Check.due("an undo is none", x.undo(), false);
        Check.due("what was SEEN stays", x.has(9), 1);
    }

    private static void undoes() {
        Edge.of(31, "The last 20 can be undone.");
        CenturyGates x = Check.with(TWO);
        for (int late = 1; late <= 19; late++) {
            x.hold(0, late);
        }
        Check.due("19", x.has(10), 19);
        x.hold(0, 20);
        Check.due("20", x.has(10), 20);
        x.hold(0, 21);
        Check.due("20 of 21", x.has(10), 20);
        for (int late = 20; late >= 1; late--) {
            Check.due("undo()", x.undo(), true);
            Check.due("era(0, 3)", x.era(0, 3), late);
            Check.due("has(10)", x.has(10), late - 1);
        }
        Check.due("undo() of the 21st", x.undo(), false);
        Check.due("era(0, 3)", x.era(0, 3), 1);
        for (int n = 0; n < 45; n++) {
            x.hold(0, 50 + n % 2);
        }
        for (int n = 44; n >= 25; n--) {
            Check.due("undo()", x.undo(), true);
            Check.due("era(0, 3)", x.era(0, 3), 50 + (n - 1) % 2);
        }
        Check.due("undo()", x.undo(), false);

        Edge.of(31, "The latest ACT is undone (the seed stays): true;");
        CenturyGates y = Check.with(TWO + "pigs 100;sees 3;late late+1;");
        y.put(1, 1);
        y.hold(0, 9);
        y.send(0, 2);
        y.days(2);
        y.chance(2);
        Check.due("undo() of chance()", y.undo(), true);
        Check.due("has(6), has(8)", y.has(6) * 10 + y.has(8), 22);
        Check.due("era(0, 3)", y.era(0, 3), 11);
        Check.due("undo() of days()", y.undo(), true);
        Check.due("has(6), has(8)", y.has(6) * 10 + y.has(8), 0);
        Check.due("era(0, 3), era(1, 3)", y.era(0, 3) * 10 + y.era(1, 3), 90);
        Check.due("car(0, 1)", y.car(0, 1), 2);
        Check.due("undo() of send()", y.undo(), true);
        Check.due("car(0, 1)", y.car(0, 1), 1);
        Check.due("undo() of hold()", y.undo(), true);
        Check.due("era(0, 3)", y.era(0, 3), 0);
        Check.due("undo() of put()", y.undo(), true);
        Check.due("has(7)", y.has(7), 0);
        long[] seed = {1};
        for (int n = 0; n < 6; n++) {
            draw(seed, 1);
        }
        y.chance(1);
        draw(seed, 100);
        int era = (int) draw(seed, 2);
        Check.due("the seed stays", y.era(era, 3), 1 + draw(seed, 20));
        CenturyGates kept = Check.with(Fens.LONG_WAIT);
        kept.days(1);
        kept.put(0, 1);
        kept.days(40);
        Check.due("the oldest", kept.kept(0, 0), 1);
        kept.undo();
        Check.due("what was KEPT is told again", kept.kept(0, 0) * 100 + kept.kept(0, 1), 36);
        Check.due("has(8)", kept.has(8), 1);
        kept.days(39);
        kept.days(40);
        kept.undo();
        for (int k = 0; k < 40; k++) {
            Check.due("kept(" + k + ", 0)", kept.kept(k, 0), k);
            Check.due("kept(" + k + ", 1)", kept.kept(k, 1), k == 0 ? 36 : 0);
        }

        Edge.of(31, "false, refused (4), when none can be.");
        CenturyGates none = Check.with(TWO);
        Check.due("undo()", none.undo(), false);
        Check.due("status(4)", none.status(4), 1);
        none.put(0, 1);
        Check.due("undo()", none.undo(), true);
        Check.due("undo()", none.undo(), false);
        Check.due("status(4)", none.status(4), 2);
        none.put(0, 0);
        none.days(0);
        none.seed(7);
        none.image();
        Check.due("what is refused is no ACT, nor a seed, an image", none.undo(), false);
        Check.due("status(4)", none.status(4), 3);
        none.put(0, 1);
        Check.tell(none, TWO);
        Check.due("undo() behind district()", none.undo(), false);
        Check.due("undo() without a district", new CenturyGates().undo(), false);
    }

    private static void seeds() {
        Edge.of(32, "The seed: true; false, refused (5), when it is below 0. (It is 1 at first.)");
        CenturyGates x = Check.with(TWO + "pigs 93;");
        Check.due("seed(0)", x.seed(0), true);
        Check.due("seed(greatest)", x.seed(Integer.MAX_VALUE), true);
        Check.due("status(5)", x.status(5), 0);
        x.seed(0);
        Check.due("seed(-1)", x.seed(-1), false);
        Check.due("seed(least)", x.seed(Integer.MIN_VALUE), false);
        Check.due("status(5)", x.status(5), 2);
        Check.due("0 stays, its DRAW is 92", x.chance(1), 1);
        x.seed(0);
        x.send(0, 2);
        x.send(0, 1);
        Check.tell(x, TWO + "pigs 92;");
        Check.due("0 stays, its DRAW is 92", x.chance(1), 0);
        // from 1 the first DRAW of 100 is 18
        Check.due("1 at first, pigs 18", Check.with(TWO + "pigs 18;").chance(1), 0);
        Check.due("1 at first, pigs 19", Check.with(TWO + "pigs 19;").chance(1), 1);
        CenturyGates none = new CenturyGates();
        Check.due("seed(0) without a district", none.seed(0), true);
        Check.tell(none, TWO + "pigs 19;");
        Check.due("it is 0", none.chance(1), 0);
    }
}
