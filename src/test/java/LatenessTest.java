/** Promises 23 to 25: what is SEEN, how late an ERA was, what tells most. */
public final class LatenessTest {
    public static void main(String[] args) {
        sees();
        was();
        tells();
        Check.finish();
    }

    private static void see(CenturyGates x, int want, int... bytes) {
        Check.feed(x, bytes);
        int before = x.status(1);
        Check.due("see()", x.see(), want);
        Check.due("status(1)", x.status(1), before + (want == -1 ? 1 : 0));
    }

    private static void sees() {
        CenturyGates x = Check.with(Fens.FENS);
        see(x, -1);
        see(x, -1, 0);
        see(x, -1, 0, 0);
        see(x, 1, 0, 0, 0);
        see(x, -1, 0, 0, 0, 1);
        see(x, -1, 0, 0, 0, 1, 1);
        see(x, 2, 199, 0, 1, 199, 1, 0);
        Check.due("has(9)", x.has(9), 2);
        see(x, -1, 200, 0, 1);
        see(x, -1, 255, 0, 1);
        see(x, -1, 0, 2, 1);
        see(x, -1, 0, 255, 1);
        see(x, -1, 0, 0, 2);
        see(x, -1, 1, 1, 1, 0, 0, 2);
        Check.due("has(9) stays", x.has(9), 2);
        int[] rows = new int[16 * 3];
        see(x, 16, rows);
        Check.due("has(9)", x.has(9), 16);
        see(x, -1, new int[17 * 3]);
        see(x, 1, 5, 1, 0);
        Check.due("has(9), these alone", x.has(9), 1);
        x.put(0, 1);
        x.undo();
        Check.due("has(9) stays with undo()", x.has(9), 1);
        CenturyGates none = Check.with("district 9;");
        see(none, -1, 0, 0, 0);
        see(new CenturyGates(), -1, 0, 0, 0);
    }

    private static void was(CenturyGates x, int era, int count, int least, int greatest) {
        Check.due("was(0)", x.was(era, 0), count);
        Check.due("was(1)", x.was(era, 1), least);
        Check.due("was(2)", x.was(era, 2), greatest);
    }

    private static void was() {
        CenturyGates x = Check.with(Fens.FENS);
        was(x, 0, 100, 0, 99);
        was(x, 1, 100, 0, 99);
        Check.due("was(0, 3)", x.was(0, 3), -1);
        Check.due("was(0, -1)", x.was(0, -1), -1);
        Check.due("was(2, 0)", x.was(2, 0), -1);
        Check.due("was(-1, 0)", x.was(-1, 0), -1);
        see(x, 1, 10, 0, 1);
        was(x, 0, 4, 4, 7);
        was(x, 1, 0, -1, -1);
        see(x, 2, 10, 0, 1, 9, 0, 0);
        was(x, 0, 1, 7, 7);
        // old closes gog in 3, whatever new does
        see(x, 1, 3, 0, 1);
        was(x, 0, 1, 0, 0);
        was(x, 1, 100, 0, 99);
        see(x, 1, 3, 0, 0);
        was(x, 0, 99, 1, 99);
        was(x, 1, 0, -1, -1);
        x.hold(0, 50);
        was(x, 0, 99, 1, 99);
        was(x, 1, 100, 0, 99);
        x.put(0, 1);
        was(x, 0, 100, 0, 99);
        see(x, 1, 3, 0, 1);
        was(x, 0, 0, -1, -1);
        // in minute 199 an era from 99 has just set out, at the latest
        CenturyGates y = Check.with("district 60;gate g at 0;era e long 1 pace 1 from 99;shuts ahead=0;");
        see(y, 1, 198, 0, 1);
        was(y, 0, 1, 99, 99);
        see(y, 1, 199, 0, 1);
        was(y, 0, 0, -1, -1);
        see(y, 1, 99, 0, 0);
        was(y, 0, 99, 1, 99);
    }

    private static void tells(CenturyGates x, int era, int minute, int gate, int left) {
        Check.due("tells(0)", x.tells(era, 0), minute);
        Check.due("tells(1)", x.tells(era, 1), gate);
        Check.due("tells(2)", x.tells(era, 2), left);
    }

    private static void tells() {
        CenturyGates x = Check.with(Fens.FENS);
        see(x, 1, 10, 0, 1);
        tells(x, 0, 8, 0, 2);
        Check.due("tells(0, 3)", x.tells(0, 3), -1);
        Check.due("tells(0, -1)", x.tells(0, -1), -1);
        Check.due("tells(2, 0)", x.tells(2, 0), -1);
        Check.due("tells(-1, 0)", x.tells(-1, 0), -1);
        tells(x, 1, -1, -1, -1);
        // one number is left: nothing tells more, the first of all it is
        see(x, 1, 3, 0, 1);
        tells(x, 0, 0, 0, 1);
        // what holding the ERA at each number tells is due
        CenturyGates y = Check.with("district 60;gate g at 3;gate h at 7;era e long 30 pace 1 from 10;"
                + "shuts ahead+minute>0 and ahead<8 and pace=1 and ahead>0-90 and not ahead=3;");
        tells(y, 0, firstBest(y)[0], firstBest(y)[1], firstBest(y)[2]);
        CenturyGates none = Check.with("district 60;era e long 30 pace 1 from 10;");
        tells(none, 0, -1, -1, -1);
        CenturyGates up = Check.with(Fens.FENS);
        up.put(0, 1);
        up.put(1, 1);
        tells(up, 0, 0, 0, 100);
    }

    /** By holding the ERA at each number, and counting. */
    private static int[] firstBest(CenturyGates x) {
        int[][] shut = new int[200][x.has(1)];
        for (int late = 0; late < 100; late++) {
            x.hold(0, late);
            for (int minute = 0; minute < 200; minute++) {
                for (int gate = 0; gate < x.has(1); gate++) {
                    shut[minute][gate] += x.closed(gate, minute);
                }
            }
        }
        int[] best = {-1, -1, 101};
        for (int minute = 0; minute < 200; minute++) {
            for (int gate = 0; gate < x.has(1); gate++) {
                int left = Math.max(shut[minute][gate], 100 - shut[minute][gate]);
                if (left < best[2]) {
                    best = new int[] {minute, gate, left};
                }
            }
        }
        return best;
    }
}
