/** Promises 6 to 11: what there is. */
public final class TablesTest {
    public static void main(String[] args) {
        counts();
        letters();
        numbers();
        kept();
        Check.finish();
    }

    private static void counts() {
        CenturyGates x = Check.with(Fens.FENS);
        int[] first = {20, 2, 3, 3, 2, 2, 0, 0, 0, 0, 0};
        for (int what = 0; what < first.length; what++) {
            Check.due("has(" + what + ")", x.has(what), first[what]);
        }
        Check.due("has(-1)", x.has(-1), -1);
        Check.due("has(11)", x.has(11), -1);
        Check.due("has(greatest)", x.has(Integer.MAX_VALUE), -1);
        x.put(1, 1);
        x.days(3);
        Check.feed(x, 3, 0, 1, 4, 1, 0);
        x.see();
        int[] later = {20, 2, 3, 3, 2, 2, 3, 1, 3, 2, 2};
        for (int what = 0; what < later.length; what++) {
            Check.due("has(" + what + ") later", x.has(what), later[what]);
        }
    }

    private static void letters() {
        CenturyGates x = Check.with("district 9;gate az at 1;place abcdef;place zzzzzz;era m long 1 pace 1 from 1;"
                + "car first at abcdef to zzzzzz from 1;");
        name(x, 0, 0, "az");
        name(x, 1, 0, "abcdef");
        name(x, 1, 1, "zzzzzz");
        name(x, 2, 0, "m");
        name(x, 3, 0, "first");
        Check.due("letter(0, 1, 0)", x.letter(0, 1, 0), -1);
        Check.due("letter(1, 2, 0)", x.letter(1, 2, 0), -1);
        Check.due("letter(2, -1, 0)", x.letter(2, -1, 0), -1);
        Check.due("letter(3, 1, 0)", x.letter(3, 1, 0), -1);
        Check.due("letter(4, 0, 0)", x.letter(4, 0, 0), -1);
        Check.due("letter(-1, 0, 0)", x.letter(-1, 0, 0), -1);
        Check.due("letter(1, 0, 6)", x.letter(1, 0, 6), -1);
        Check.due("letter(1, 0, -1)", x.letter(1, 0, -1), -1);
        Check.due("letter(2, 0, greatest)", x.letter(2, 0, Integer.MAX_VALUE), -1);
    }

    private static void name(CenturyGates x, int kind, int which, String name) {
        for (int k = 0; k < 6; k++) {
            int want = k < name.length() ? name.charAt(k) - 'a' + 1 : 0;
            Check.due("letter " + k + " of " + name, x.letter(kind, which, k), want);
        }
    }

    private static void numbers() {
        CenturyGates x = Check.with(Fens.FENS);
        row("gate 0", new int[] {x.gate(0, -1), x.gate(0, 0), x.gate(0, 1), x.gate(0, 2)}, -1, 6, 0, -1);
        row("gate 1", new int[] {x.gate(1, -1), x.gate(1, 0), x.gate(1, 1), x.gate(1, 2)}, -1, 12, 0, -1);
        Check.due("gate(2, 0)", x.gate(2, 0), -1);
        Check.due("gate(-1, 0)", x.gate(-1, 0), -1);
        x.put(1, 1);
        Check.due("gate(0, 1)", x.gate(0, 1), 0);
        Check.due("gate(1, 1)", x.gate(1, 1), 1);
        row("era 0", new int[] {x.era(0, -1), x.era(0, 0), x.era(0, 1), x.era(0, 2), x.era(0, 3), x.era(0, 4)},
                -1, 4, 2, 1, 0, -1);
        x.hold(1, 99);
        row("era 1", new int[] {x.era(1, -1), x.era(1, 0), x.era(1, 1), x.era(1, 2), x.era(1, 3), x.era(1, 4)},
                -1, 2, 3, 10, 99, -1);
        Check.due("era(2, 0)", x.era(2, 0), -1);
        Check.due("era(-1, 3)", x.era(-1, 3), -1);
        row("car 0", new int[] {x.car(0, -1), x.car(0, 0), x.car(0, 1), x.car(0, 2), x.car(0, 3), x.car(0, 4)},
                -1, 0, 1, 1, 0, -1);
        row("car 1", new int[] {x.car(1, -1), x.car(1, 0), x.car(1, 1), x.car(1, 2), x.car(1, 3), x.car(1, 4)},
                -1, 1, 2, 9, 0, -1);
        Check.due("car(2, 0)", x.car(2, 0), -1);
        Check.due("car(-1, 0)", x.car(-1, 0), -1);
        Check.due("car(least, 3)", x.car(Integer.MIN_VALUE, 3), -1);
    }

    private static void row(String of, int[] got, int... want) {
        for (int k = 0; k < want.length; k++) {
            Check.due(of + ", " + (k - 1), got[k], want[k]);
        }
    }

    private static void kept() {
        CenturyGates x = Check.with(Fens.LONG_WAIT + "car d at b to a from 30;");
        Check.due("kept(0, 0)", x.kept(0, 0), -1);
        Check.due("days(1)", x.days(1), 36 + 6);
        x.put(0, 1);
        Check.due("days(1)", x.days(1), 0);
        row("kept 0", new int[] {x.kept(0, -1), x.kept(0, 0), x.kept(0, 1), x.kept(0, 2), x.kept(0, 3)},
                -1, 0, 42, 0, -1);
        row("kept 1", new int[] {x.kept(1, -1), x.kept(1, 0), x.kept(1, 1), x.kept(1, 2), x.kept(1, 3)},
                -1, 1, 0, 0, -1);
        Check.due("kept(2, 0)", x.kept(2, 0), -1);
        Check.due("kept(-1, 0)", x.kept(-1, 0), -1);
        x.days(38);
        Check.due("has(8)", x.has(8), 40);
        Check.due("kept(0, 0)", x.kept(0, 0), 0);
        x.days(2);
        Check.due("has(8), the last 40", x.has(8), 40);
        Check.due("kept(0, 0)", x.kept(0, 0), 2);
        Check.due("kept(39, 0)", x.kept(39, 0), 41);
        Check.due("kept(40, 0)", x.kept(40, 0), -1);
        x.undo();
        Check.due("kept(0, 0) undone", x.kept(0, 0), 0);
        Check.due("kept(0, 1) undone", x.kept(0, 1), 42);
        Check.due("kept(39, 0) undone", x.kept(39, 0), 39);
        CenturyGates towed = Check.with("district 5;place a;place b;place c;road a to b steps 1;"
                + "car x at a to c from 0;car y at a to b from 0;car z at c to b from 0;");
        towed.days(1);
        Check.due("two are towed", towed.kept(0, 2), 2);
    }
}
