/** Promises 6 to 11, sentence by sentence. */
public final class TableEdgesTest {
    private static final int[] FAR = {Integer.MIN_VALUE, -100, 100, Integer.MAX_VALUE};

    /** As many of each sort as there can be. */
    static final String FULL = "district 60;gate ga at 0;gate gb at 60;gate gc at 7;gate gd at 8;gate ge at 9;gate gf at 10;"
            + "place pa;place pb;place pc;place pd;place pe;place pf;place pg;" + "road pa to pb steps 60;".repeat(12)
            + "era ea long 1 pace 1 from 0;era eb long 30 pace 9 from 99;era ec long 3 pace 3 from 3;"
            + "era ed long 4 pace 4 from 4;era ee long 5 pace 5 from 5;"
            + "car ca at pa to pb from 0;car cb at pg to pa from 99;car cc at pc to pd from 3;"
            + "car cd at pd to pe from 4;car ce at pe to pf from 5;";

    public static void main(String[] args) {
        counts();
        letters();
        gates();
        eras();
        cars();
        kept();
        Edge.finish(6, 7, 8, 9, 10, 11);
    }

    private static void counts() {
        Edge.of(6, "How many there are: 0 the last mile, 1 GATES, 2 PLACES, 3 roads and lanes, 4 ERAS, 5 CARS, 6 DAY, "
                + "7 GATES that are UP, 8 what is told as KEPT, 9 rows SEEN, 10 ACTS that can be undone.");
        CenturyGates x = Check.with(FULL);
        has(x, 60, 6, 7, 12, 5, 5, 0, 0, 0, 0, 0);
        has(Check.with("district 5;"), 5, 0, 0, 0, 0, 0, 0, 0, 0, 0, 0);
        for (int gate = 0; gate < 6; gate++) {
            x.put(gate, 1);
        }
        Check.feed(x, new int[48]);
        x.see();
        has(x, 60, 6, 7, 12, 5, 5, 0, 6, 0, 16, 6);
        x.days(40);
        x.days(1);
        has(x, 60, 6, 7, 12, 5, 5, 41, 6, 40, 16, 8);
        for (int n = 0; n < 13; n++) {
            x.put(0, n % 2);
        }
        has(x, 60, 6, 7, 12, 5, 5, 41, 5, 40, 16, 20);

        Edge.of(6, "NONE for others.");
        for (CenturyGates y : new CenturyGates[] {x, new CenturyGates()}) {
            Check.due("has(-1)", y.has(-1), -1);
            Check.due("has(11)", y.has(11), -1);
            for (int what : FAR) {
                Check.due("has(" + what + ")", y.has(what), -1);
            }
        }
    }

    private static void has(CenturyGates x, int... want) {
        for (int what = 0; what < want.length; what++) {
            Check.due("has(" + what + ")", x.has(what), want[what]);
        }
    }

    private static void letters() {
        Edge.of(7, "Letter k (0 .. 5) of the NAME of a GATE (kind 0), a PLACE (1), an ERA (2), a CAR (3): 1 .. 26;");
        CenturyGates x = Check.with("district 9;gate abcdef at 1;place zyxwvu;place q;era mmmmmm long 1 pace 1 from 1;"
                + "car azazaz at q to zyxwvu from 1;");
        String[] names = {"abcdef", "zyxwvu", "mmmmmm", "azazaz"};
        for (int kind = 0; kind < 4; kind++) {
            for (int k = 0; k < 6; k++) {
                Check.due("letter(" + kind + ", 0, " + k + ")", x.letter(kind, 0, k), names[kind].charAt(k) - 'a' + 1);
            }
        }

        Edge.of(7, "0 behind it;");
        Check.due("letter(1, 1, 0)", x.letter(1, 1, 0), 17);
        for (int k = 1; k < 6; k++) {
            Check.due("letter(1, 1, " + k + ")", x.letter(1, 1, k), 0);
        }
        CenturyGates five = Check.with("district 9;gate zzzzz at 1;");
        Check.due("letter(0, 0, 4)", five.letter(0, 0, 4), 26);
        Check.due("letter(0, 0, 5)", five.letter(0, 0, 5), 0);

        Edge.of(7, "NONE when there is none such.");
        int[] counts = {1, 2, 1, 1};
        for (int kind = 0; kind < 4; kind++) {
            Check.due("which -1", x.letter(kind, -1, 0), -1);
            Check.due("which beyond", x.letter(kind, counts[kind], 0), -1);
            Check.due("k -1", x.letter(kind, 0, -1), -1);
            Check.due("k 6", x.letter(kind, 0, 6), -1);
            Check.due("without a district", new CenturyGates().letter(kind, 0, 0), -1);
            for (int far : FAR) {
                Check.due("which far", x.letter(kind, far, 0), -1);
                Check.due("k far", x.letter(kind, 0, far), -1);
                Check.due("kind far", x.letter(far, 0, 0), -1);
            }
        }
        Check.due("kind -1", x.letter(-1, 0, 0), -1);
        Check.due("kind 4", x.letter(4, 0, 0), -1);
        CenturyGates full = Check.with(FULL);
        Check.due("the last GATE", full.letter(0, 5, 1), 6);
        Check.due("beyond the last GATE", full.letter(0, 6, 1), -1);
        Check.due("the last PLACE", full.letter(1, 6, 1), 7);
        Check.due("beyond the last PLACE", full.letter(1, 7, 1), -1);
        Check.due("the last ERA", full.letter(2, 4, 1), 5);
        Check.due("beyond the last ERA", full.letter(2, 5, 1), -1);
        Check.due("the last CAR", full.letter(3, 4, 1), 5);
        Check.due("beyond the last CAR", full.letter(3, 5, 1), -1);
    }

    private static void gates() {
        Edge.of(8, "Of a GATE: 0 its mile, 1 whether UP.");
        CenturyGates x = Check.with(FULL);
        Check.due("gate(0, 0)", x.gate(0, 0), 0);
        Check.due("gate(1, 0)", x.gate(1, 0), 60);
        Check.due("gate(5, 0)", x.gate(5, 0), 10);
        Check.due("gate(5, 1)", x.gate(5, 1), 0);
        x.put(5, 1);
        Check.due("gate(5, 1)", x.gate(5, 1), 1);
        Check.due("gate(4, 1)", x.gate(4, 1), 0);

        Edge.of(8, "NONE when there is none such, or for others.");
        for (int what = 0; what < 2; what++) {
            Check.due("gate(-1)", x.gate(-1, what), -1);
            Check.due("gate(6)", x.gate(6, what), -1);
            Check.due("gate(1) of one", Check.with("district 9;gate g at 1;").gate(1, what), -1);
            Check.due("without a district", new CenturyGates().gate(0, what), -1);
            for (int far : FAR) {
                Check.due("gate(" + far + ")", x.gate(far, what), -1);
            }
        }
        Check.due("gate(5, -1)", x.gate(5, -1), -1);
        Check.due("gate(5, 2)", x.gate(5, 2), -1);
        for (int far : FAR) {
            Check.due("gate(5, " + far + ")", x.gate(5, far), -1);
        }
    }

    private static void eras() {
        Edge.of(9, "Of an ERA: 0 how long, 1 pace, 2 from, 3 how late.");
        CenturyGates x = Check.with(FULL);
        int[][] want = {{1, 1, 0, 0}, {30, 9, 99, 0}, {3, 3, 3, 0}, {4, 4, 4, 0}, {5, 5, 5, 99}};
        x.hold(4, 99);
        for (int era = 0; era < 5; era++) {
            for (int what = 0; what < 4; what++) {
                Check.due("era(" + era + ", " + what + ")", x.era(era, what), want[era][what]);
            }
        }

        Edge.of(9, "NONE when there is none such, or for others.");
        for (int what = 0; what < 4; what++) {
            Check.due("era(-1)", x.era(-1, what), -1);
            Check.due("era(5)", x.era(5, what), -1);
            Check.due("era(1) of one", Check.with("district 9;era e long 1 pace 1 from 1;").era(1, what), -1);
            Check.due("without a district", new CenturyGates().era(0, what), -1);
            for (int far : FAR) {
                Check.due("era(" + far + ")", x.era(far, what), -1);
            }
        }
        Check.due("era(4, -1)", x.era(4, -1), -1);
        Check.due("era(4, 4)", x.era(4, 4), -1);
        for (int far : FAR) {
            Check.due("era(4, " + far + ")", x.era(4, far), -1);
        }
    }

    private static void cars() {
        Edge.of(10, "Of a CAR: 0 where it is, 1 its goal, 2 its MINUTE, 3 what it knows.");
        CenturyGates x = Check.with(FULL + "sees 998;");
        int[][] want = {{0, 1, 0, 0}, {6, 0, 99, 0}, {2, 3, 3, 0}, {3, 4, 4, 0}, {4, 5, 5, 0}};
        cars(x, want);
        x.days(1);
        want[0] = new int[] {1, 0, 0, 998};
        cars(x, want);
        x.send(4, 6);
        want[4][1] = 6;
        cars(x, want);

        Edge.of(10, "NONE when there is none such, or for others.");
        for (int what = 0; what < 4; what++) {
            Check.due("car(-1)", x.car(-1, what), -1);
            Check.due("car(5)", x.car(5, what), -1);
            Check.due("car(1) of one",
                    Check.with("district 9;place p;place q;car c at p to q from 1;").car(1, what), -1);
            Check.due("without a district", new CenturyGates().car(0, what), -1);
            for (int far : FAR) {
                Check.due("car(" + far + ")", x.car(far, what), -1);
            }
        }
        Check.due("car(4, -1)", x.car(4, -1), -1);
        Check.due("car(4, 4)", x.car(4, 4), -1);
        for (int far : FAR) {
            Check.due("car(4, " + far + ")", x.car(4, far), -1);
        }
    }

    private static void cars(CenturyGates x, int[][] want) {
        for (int car = 0; car < 5; car++) {
            for (int what = 0; what < 4; what++) {
                Check.due("car(" + car + ", " + what + ")", x.car(car, what), want[car][what]);
            }
        }
    }

    /** A CAR waits 36 each DAY, another one is TOWED. */
    private static CenturyGates waiting() {
        return Check.with("district 5;gate g at 0;place a;place b;place c;lane a to b steps 1 over g;"
                + "era e long 30 pace 1 from 0;car x at a to b from 0;car y at a to c from 0;shuts all;");
    }

    private static void kept() {
        Edge.of(11, "KEPT is each DAY: its number, all MINUTES waited, how many were TOWED; the last 40 are told.");
        CenturyGates x = waiting();
        x.days(1);
        x.put(0, 1);
        x.days(38);
        Check.due("has(8)", x.has(8), 39);
        x.days(1);
        Check.due("has(8)", x.has(8), 40);
        Check.due("kept(0, 0)", x.kept(0, 0), 0);
        Check.due("kept(0, 1)", x.kept(0, 1), 36);
        x.days(1);
        Check.due("has(8)", x.has(8), 40);
        Check.due("kept(0, 0)", x.kept(0, 0), 1);
        Check.due("kept(0, 1)", x.kept(0, 1), 0);
        x.days(40);
        Check.due("has(8)", x.has(8), 40);
        Check.due("kept(0, 0)", x.kept(0, 0), 41);
        Check.due("kept(39, 0)", x.kept(39, 0), 80);

        Edge.of(11, "Of what is told as KEPT, the k-th from the oldest on: 0 DAY, 1 MINUTES waited, 2 TOWED.");
        CenturyGates y = waiting();
        y.days(1);
        y.put(0, 1);
        y.days(1);
        y.send(1, 1);
        y.put(0, 0);
        y.days(1);
        int[][] want = {{0, 36, 1}, {1, 0, 1}, {2, 72, 0}};
        for (int k = 0; k < 3; k++) {
            for (int what = 0; what < 3; what++) {
                Check.due("kept(" + k + ", " + what + ")", y.kept(k, what), want[k][what]);
            }
        }

        Edge.of(11, "NONE when there is none such, or for others.");
        for (int what = 0; what < 3; what++) {
            Check.due("kept(-1)", y.kept(-1, what), -1);
            Check.due("kept(3)", y.kept(3, what), -1);
            Check.due("kept(40) of 40", x.kept(40, what), -1);
            Check.due("kept(39) of 40", x.kept(39, what) >= 0, true);
            Check.due("nothing is kept", waiting().kept(0, what), -1);
            Check.due("without a district", new CenturyGates().kept(0, what), -1);
            for (int far : FAR) {
                Check.due("kept(" + far + ")", y.kept(far, what), -1);
            }
        }
        Check.due("kept(2, -1)", y.kept(2, -1), -1);
        Check.due("kept(1, 3)", y.kept(1, 3), -1);
        for (int far : FAR) {
            Check.due("kept(1, " + far + ")", y.kept(1, far), -1);
        }
    }
}
