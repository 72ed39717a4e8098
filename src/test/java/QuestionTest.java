/** Promise 33: QUESTIONS, and their FAULTS. */
public final class QuestionTest {
    public static void main(String[] args) {
        kinds();
        parts();
        closedAndDrive();
        longest();
        noCars();
        noDistrict();
        faults();
        openAtOnce();
        Check.finish();
    }

    private static void kinds() {
        CenturyGates x = Check.with("district 9;place p;place q;car a at p to q from 4;car b at q to p from 7;"
                + "car c at p to q from 7;car d at p to q from 2;");
        Check.asks(x, "first from=7", 1);
        Check.asks(x, "last from=7", 2);
        Check.asks(x, "first all", 0);
        Check.asks(x, "last all", 3);
        Check.asks(x, "first from>7", -1);
        Check.asks(x, "last from>7", -1);
        Check.asks(x, "often from=7", 2);
        Check.asks(x, "often from>7", 0);
        Check.asks(x, "often all", 4);
        Check.asks(x, "total from", 20);
        Check.asks(x, "most from", 7);
        Check.asks(x, "least from", 2);
        Check.asks(x, "most 0-from", -2);
        Check.asks(x, "least 0-from", -7);
        Check.asks(x, "total 9999*9999", 4000000);
        Check.asks(x, "total 0-9999*9999", -4000000);
        Check.asks(x, "\n often\nnot [ from = 7 ] ", 2);
        Check.asks(x, "total(from)", 20);
        Check.asks(x, "often[from=7]", 2);
    }

    private static void parts() {
        CenturyGates x = Check.with(Fens.FENS);
        Check.asks(x, "total number*10+at", 11);
        Check.asks(x, "most to*10+from", 29);
        Check.asks(x, "least to*10+from", 11);
        Check.asks(x, "total waits", 1);
        Check.asks(x, "last waits=1", 1);
        x.days(2);
        Check.asks(x, "total knows", x.car(0, 3) + x.car(1, 3));
        Check.asks(x, "most day", 2);
        Check.asks(x, "total min(number,0)+max(number,0)", 1);
        CenturyGates towed = Check.with("district 5;place a;place b;place c;road a to b steps 1;"
                + "car x at a to c from 0;car y at a to b from 0;");
        Check.asks(towed, "total waits", -1);
        Check.asks(towed, "first waits=0", 1);
        Check.asks(towed, "first waits<0", 0);
    }

    private static void closedAndDrive() {
        CenturyGates x = Check.with(Fens.FENS + "car sue at ely to wis from 3;");
        // in minute 1 none, in minute 9 mag, in minute 3 gog is closed
        Check.asks(x, "often closed 0=1", 1);
        Check.asks(x, "first closed 0=1", 2);
        Check.asks(x, "first closed 1=1", 1);
        Check.asks(x, "total closed 2+closed 6+closed 9999", 0);
        Check.asks(x, "total closed(0-1)", 0);
        Check.asks(x, "total closed 0*100+number", 103);
        Check.asks(x, "total closed number*10", 10);
        x.put(0, 1);
        Check.asks(x, "total closed 0", 0);
        x.put(0, 0);
        Check.asks(x, "most drive 1", 12);
        Check.asks(x, "least drive 1", 6);
        Check.asks(x, "total drive at", 13);
        Check.asks(x, "total drive to", 6 + 13 + 9);
        Check.asks(x, "total drive 3", -3);
        Check.asks(x, "total drive 7", -3);
        Check.asks(x, "total drive(0-1)", -3);
        Check.asks(x, "total drive to-drive at", 6 + 13 + 9 - 13);
        Check.asks(x, "total drive drive 9", -3);
        Check.asks(x, "total drive closed 9", 1 + (x.drive(1, 0, 9)) + 3);
        Check.asks(x, "most drive min(0,1)", x.drive(1, 0, 9));
        CenturyGates towed = Check.with("district 5;place a;place b;car x at a to b from 8;");
        Check.asks(towed, "total drive 1", -1);
        Check.asks(towed, "total drive 0", 8);
    }

    private static void longest() {
        CenturyGates x = Check.with("district 5;place p;place q;car c at p to q from 1;");
        Check.asks(x, "total " + "1+".repeat(796) + "11", 807);
        Check.asks(x, "total " + "1+".repeat(796) + "1 ", 797);
        Check.asksWrong(x, "total " + "1+".repeat(797), 1, 1600);
        Check.asks(x, "total 5", 5);
        Check.asks(x, "often all" + " and all".repeat(190), 1);
        Check.asks(x, "often not all" + " or not all".repeat(140), 0);
        Check.asks(x, "total ((((((1+2*3)+2*3)+2*3)+2*3)+2*3)+2*3)", 37);
        Check.asks(x, "total 2*3-(2*3-(2*3-(2*3-(2*3-(2*3-(1))))))", 1);
        Check.asks(x, "often 1<0 or 1=1 and [1<0 or 1=1 and [1<0 or 1=1 and [1<0 or 1=1 and "
                + "[1<0 or 1=1 and [1<0 or 1=1 and 1+2*3=7]]]]]", 1);
        Check.asks(x, "often 1<0 or 1=1 and [1<0 or 1=1 and [1<0 or 1=1 and 9-2*(9-2*min(9-2*3,9-2*4))<0-4]]", 1);
    }

    private static void noCars() {
        CenturyGates x = Check.with("district 9;");
        Check.asks(x, "first all", -1);
        Check.asks(x, "last all", -1);
        Check.asks(x, "often all", 0);
        Check.asks(x, "total 7", 0);
        Check.asks(x, "most 7", 0);
        Check.asks(x, "least 7", 0);
    }

    private static void noDistrict() {
        CenturyGates x = new CenturyGates();
        Check.feed(x, "often all");
        Check.due("ask() without a district", x.ask(), CenturyGates.NOTHING);
        Check.due("fault(0)", x.fault(0), 0);
        Check.fault(x, "district 4;", 2, 9);
        Check.feed(x, "often all");
        Check.due("ask() without a district", x.ask(), CenturyGates.NOTHING);
        Check.due("fault(0) stays", x.fault(0), 2);
        Check.due("fault(1) stays", x.fault(1), 9);
        Check.tell(x, "district 5;");
        Check.asksWrong(x, "often", 1, 5);
        Check.asks(x, "often all", 0);
        for (int what = 0; what < 6; what++) {
            Check.due("status(" + what + "): a question is not refused", x.status(what), what == 1 ? 1 : 0);
        }
    }

    private static void badAt(String marked, int kind) {
        Check.asksWrongAt(Check.with("district 5;place p;place q;car c at p to q from 1;"), marked, kind);
    }

    private static void faults() {
        badAt("^", 1);
        badAt("  \n^", 1);
        badAt("^all", 1);
        badAt("^firs all", 1);
        badAt("^firstly all", 1);
        badAt("^1", 1);
        badAt("^district 5;", 1);
        badAt("first^", 1);
        badAt("first ^first", 1);
        badAt("first all^;", 1);
        badAt("first all ^all", 1);
        badAt("first all or ^", 1);
        badAt("total 1 ^2", 1);
        badAt("total 1^<2", 1);
        badAt("total^1", 1);
        badAt("total 1^x", 1);
        badAt("total ^all", 1);
        badAt("total ^not 1<2", 1);
        badAt("first from^", 1);
        badAt("first from=^", 1);
        badAt("first 1=1^=1", 1);
        badAt("total 1234^5", 1);
        badAt("total closed^3", 1);
        badAt("total closed ^", 1);
        badAt("total drive ^+1", 1);
        badAt("total closed ^all", 1);
        badAt("total drive min^", 1);
        badAt("total min(1 ^2)", 1);
        badAt("total (1^]", 1);
        badAt("first [all^)", 1);
        badAt("total ^c", 1);
        badAt("total ^abcdefghijk", 1);
        for (String part : "ahead behind long pace minute late sees district or and max".split(" ")) {
            if (part.equals("max")) {
                badAt("total max ^+1", 1);
            } else {
                badAt("total ^" + part, 1);
            }
        }
    }

    private static void openAtOnce() {
        CenturyGates x = Check.with("district 5;place p;place q;car c at p to q from 1;");
        Check.asks(x, "total closed closed closed closed closed closed 1", 0);
        badAt("total closed closed closed closed closed closed ^closed 1", 4);
        badAt("total drive drive drive drive drive drive ^drive 1", 4);
        badAt("total drive closed (drive closed (^drive 1", 4);
        badAt("total drive closed (drive closed (^(1", 4);
        badAt("first not [not [drive (^closed 1", 4);
        Check.asks(x, "first not [not [1=drive 1 or drive closed 1=1]]", 0);
        Check.asks(x, "total closed closed closed 1+closed closed closed closed closed closed 1", 0);
        badAt("first not not not not not not ^not all", 4);
        badAt("first not not not not not [1=1 or ^(1", 4);
        badAt("first not not not not not [^closed 1=1", 4);
        badAt("total min(min(min(min(min(min(1,min^(1", 4);
        badAt("total ((((((^(1", 4);
    }
}
