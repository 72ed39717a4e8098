/** Promise 33, and the QUESTIONS of section IV, sentence by sentence. */
public final class QuestionEdgesTest {
    private static final String FOUR = "district 9;place p;place q;place r;road p to q steps 5;"
            + "car a at p to q from 4;car b at q to p from 7;car c at p to r from 7;car d at q to p from 2;";
    private static final String ONE = "district 9;place p;place q;car a at p to q from 4;";

    public static void main(String[] args) {
        theTape();
        kinds();
        parts();
        closedParts();
        driveParts();
        reckoning();
        withoutDistrict();
        noSuchText();
        openAtOnce();
        Edge.finish(33);
    }

    private static void theTape() {
        Edge.of(33, "The tape (it goes) is a QUESTION: its answer;");
        CenturyGates x = Check.with(FOUR);
        Check.asks(x, "often all", 4);
        Check.due("the tape goes", x.end(1), false);
        Check.asksWrong(x, "often", 1, 5);
        Check.due("the tape goes, with a FAULT", x.end(1), false);
        Check.asksWrong(x, "", 1, 0);
        Check.asks(x, "total " + "1+".repeat(796) + "11", 4 * 807);
        Check.asks(x, "often " + "all and ".repeat(198) + "all", 4);
        Check.asks(x, "total 1", 4);
        // nothing of a QUESTION before is left in the next one
        for (int n = 0; n < 3; n++) {
            Check.asks(x, "total " + "1+".repeat(796) + n, 4 * (796 + n));
            Check.asksWrong(x, "total " + "1+".repeat(797), 1, 6 + 2 * 797);
        }
        for (int n = 0; n < 80; n++) {
            Check.asks(x, "total " + n, 4 * n);
        }
        Check.due("nothing has changed", x.has(6) + x.has(8) + x.has(10), 0);
        for (int what = 0; what < 6; what++) {
            Check.due("nothing is refused", x.status(what), what == 0 ? 2 : 0);
        }
    }

    private static void kinds() {
        CenturyGates x = Check.with(FOUR);
        CenturyGates none = Check.with("district 9;");
        Edge.of(33, "A QUESTION is a text, of all CARS: first TEST, last TEST (the first, the last CAR for which it holds),");
        Check.asks(x, "first from=7", 1);
        Check.asks(x, "last from=7", 2);
        Check.asks(x, "first all", 0);
        Check.asks(x, "last all", 3);
        Check.asks(x, "first from=2", 3);
        Check.asks(x, "last from=4", 0);

        Edge.of(33, "NONE of first, last, when its TEST holds for none;");
        Check.asks(x, "first from>7", -1);
        Check.asks(x, "last from>7", -1);
        Check.asks(x, "first not all", -1);
        Check.asks(none, "first all", -1);
        Check.asks(none, "last all", -1);

        Edge.of(33, "often TEST (for how many),");
        Check.asks(x, "often from=7", 2);
        Check.asks(x, "often all", 4);
        Check.asks(x, "often not all", 0);
        Check.asks(none, "often all", 0);

        Edge.of(33, "total SUM (of all together),");
        Check.asks(x, "total from", 20);
        Check.asks(x, "total 0-from", -20);
        Check.asks(x, "total 9999*9999", 4000000);
        Check.asks(x, "total 0-9999*9999", -4000000);
        Check.asks(x, "total number-1", 2);
        Check.asks(none, "total 7", 0);

        Edge.of(33, "most SUM, least SUM (the greatest, the least of all; 0 without CARS).");
        Check.asks(x, "most from", 7);
        Check.asks(x, "least from", 2);
        Check.asks(x, "most 0-from", -2);
        Check.asks(x, "least 0-from", -7);
        Check.asks(x, "most 3", 3);
        Check.asks(x, "least 3", 3);
        Check.asks(x, "most number", 3);
        Check.asks(x, "most 3-number", 3);
        Check.asks(x, "least number", 0);
        Check.asks(x, "least 3-number", 0);
        Check.asks(none, "most 7", 0);
        Check.asks(none, "most 0-7", 0);
        Check.asks(none, "least 7", 0);
        Check.asks(none, "least 0-7", 0);
    }

    private static void parts() {
        CenturyGates x = Check.with(FOUR + "sees 6;");
        Edge.of(33, "PART: N; number; at; to; from; knows; day; waits; closed PART; drive PART; ( SUM ) ; "
                + "min ( SUM , SUM ) ; max ( SUM , SUM ) .");
        Check.asks(x, "total 9999", 4 * 9999);
        Check.asks(x, "total number", 6);
        Check.asks(x, "total (number)", 6);
        Check.asks(x, "total min(number,1)", 3);
        Check.asks(x, "total max(number,1)", 7);

        Edge.of(33, "(The CAR's number, the numbers of the PLACES where it is, to which it goes, its MINUTE;");
        Check.asks(x, "first number=3", 3);
        Check.asks(x, "total at", 2);
        Check.asks(x, "total to", 3);
        Check.asks(x, "last to=2", 2);
        Check.asks(x, "first from=2", 3);
        x.days(1);
        Check.asks(x, "total at", 1);
        Check.asks(x, "total to", 2 + 2);
        Check.asks(x, "total knows", 18);
        Check.asks(x, "most day", 1);
        Check.asks(x, "least day", 1);

        Edge.of(33, "how long it WAITS today, -1 if it is TOWED;");
        Check.asks(x, "total waits", -1);
        Check.asks(x, "first waits<0", 2);
        Check.asks(x, "often waits=0", 3);
        CenturyGates waiting = Check.with(Fens.LONG_WAIT);
        Check.asks(waiting, "total waits", 36);
        waiting.put(0, 1);
        Check.asks(waiting, "total waits", 0);
    }

    /** GATES at 0 and 5; the first is closed in MINUTE 4, the second in 7. */
    private static CenturyGates shut() {
        return Check.with(FOUR + "gate g at 0;gate h at 5;era e long 9 pace 1 from 0;"
                + "shuts ahead+minute=0 and minute=4 or ahead+minute=5 and minute=7;");
    }

    private static void closedParts() {
        CenturyGates x = shut();
        Edge.of(33, "1 if the GATE of that number is CLOSED in its MINUTE, else 0, 0 of one that there is not;");
        Check.asks(x, "often closed 0=1", 1);
        Check.asks(x, "first closed 0=1", 0);
        Check.asks(x, "often closed 1=1", 2);
        Check.asks(x, "first closed 1=1", 1);
        Check.asks(x, "total closed 0+closed 1", 3);
        Check.asks(x, "total closed 2", 0);
        Check.asks(x, "total closed 5", 0);
        Check.asks(x, "total closed 6", 0);
        Check.asks(x, "total closed 9999", 0);
        Check.asks(x, "total closed(0-1)", 0);
        Check.asks(x, "total closed(0-9999*9999)", 0);
        Check.asks(x, "total closed number", 2);
        Check.asks(x, "total closed 1*100+number", 206);
        Check.asks(x, "total closed(1*100)", 0);
        x.put(1, 1);
        Check.asks(x, "total closed 1", 0);
    }

    private static void driveParts() {
        CenturyGates x = shut();
        Edge.of(33, "the MINUTE in which it can be at the PLACE of that number, from where it is, from its MINUTE on, "
                + "-1 if it can't, or of one that there is not.)");
        Check.asks(x, "total drive 0", 4 + 12 + 7 + 7);
        Check.asks(x, "total drive 1", 9 + 7 + 12 + 2);
        Check.asks(x, "total drive at", 20);
        Check.asks(x, "total drive 2", -4);
        Check.asks(x, "total drive 3", -4);
        Check.asks(x, "total drive 6", -4);
        Check.asks(x, "total drive 7", -4);
        Check.asks(x, "total drive 9999", -4);
        Check.asks(x, "total drive(0-1)", -4);
        Check.asks(x, "total drive(0-9999*9999)", -4);
        Check.asks(x, "total drive to", 9 + 12 - 1 + 7);
        Check.asks(x, "total drive 0+1", 4 + 12 + 7 + 7 + 4);
        Check.asks(x, "total drive(0+1)", 9 + 7 + 12 + 2);
        Check.asks(x, "total drive drive 2", -4);
        Check.asks(x, "total drive closed 0", 9 + 12 + 7 + 7);
        CenturyGates seven = Check.with(TableEdgesTest.FULL);
        Check.asks(seven, "first drive 6=from", 1);
        Check.asks(seven, "total drive 7", -5);
    }

    private static void reckoning() {
        Edge.of(33, "TEST, SUM as in I, but");
        CenturyGates x = Check.with(ONE);
        Check.asks(x, "total 10-3-2", 5);
        Check.asks(x, "total (0-7)/2", -4);
        Check.asks(x, "total 7/0", 0);
        Check.asks(x, "total 9999*9999", 1000000);
        Check.asks(x, "total 0-9999*9999-1", -1000000);
        Check.asks(x, "total 1000*1000+1-1", 999999);
        Check.asks(x, "often all or all and not all", 1);
        Check.asks(x, "often [all or all] and not all", 0);
        Check.asks(x, "often not 1>2", 1);
        Check.asks(x, " often\nall\n", 1);
        Check.asks(x, "often[all]", 1);
        Check.asks(x, "total(1)", 1);
        Check.asksWrongAt(x, "total^1", 1);
        Check.asksWrongAt(x, "total 1^or", 1);
        Check.asksWrongAt(x, "total 1000^0", 1);
    }

    private static void withoutDistrict() {
        Edge.of(33, "NOTHING with a FAULT, or, doing nothing else, without a district.");
        CenturyGates x = new CenturyGates();
        for (String text : new String[] {"often all", "often", ""}) {
            Check.feed(x, text);
            Check.due("ask() of " + text, x.ask(), CenturyGates.NOTHING);
            Check.due("fault(0)", x.fault(0), 0);
            Check.due("fault(1)", x.fault(1), -1);
        }
        Check.fault(x, "district 4;", 2, 9);
        Check.feed(x, "often all");
        Check.due("ask()", x.ask(), CenturyGates.NOTHING);
        Check.due("fault(0)", x.fault(0), 2);
        Check.due("fault(1)", x.fault(1), 9);
        for (int what = 0; what < 6; what++) {
            Check.due("status(" + what + ")", x.status(what), what == 1 ? 1 : 0);
        }
        Check.tell(x, "district 5;");
        Check.asksWrong(x, "often", 1, 5);
    }

    private static void noSuchText() {
        Edge.of(33, "Its FAULTS: 1 as in I (an unknown word at its first byte; what stands behind it, too);");
        CenturyGates x = Check.with(ONE);
        Check.asksWrongAt(x, "^", 1);
        Check.asksWrongAt(x, "  \n^", 1);
        Check.asksWrongAt(x, "^firs all", 1);
        Check.asksWrongAt(x, "^firstly all", 1);
        Check.asksWrongAt(x, "^all", 1);
        Check.asksWrongAt(x, "^number", 1);
        Check.asksWrongAt(x, "^5", 1);
        Check.asksWrongAt(x, "^;", 1);
        for (String word : "a p unknown sevenletters ahead behind long pace minute late sees district gate".split(" ")) {
            Check.asksWrongAt(x, "total ^" + word, 1);
            Check.asksWrongAt(x, "first 1<^" + word, 1);
        }
        Check.asksWrongAt(x, "total ^all", 1);
        Check.asksWrongAt(x, "first ^first all", 1);
        Check.asksWrongAt(x, "first^", 1);
        Check.asksWrongAt(x, "total 1+^", 1);
        Check.asksWrongAt(x, "first 1^", 1);
        Check.asksWrongAt(x, "total closed^", 1);
        Check.asksWrongAt(x, "total drive ^+", 1);
        Check.asksWrongAt(x, "first all^;", 1);
        Check.asksWrongAt(x, "first all ^all", 1);
        Check.asksWrongAt(x, "total 1 ^2", 1);
        Check.asksWrongAt(x, "total 1^<2", 1);
        Check.asksWrongAt(x, "total 1 ^total 1", 1);
        Check.asksWrongAt(x, "total (1)^)", 1);
        Check.asksWrongAt(x, "first [all]^]", 1);
        Check.asksWrongAt(x, "total 1 ^\0", 1);
        Check.asks(x, "total 1 \n ", 1);
    }

    private static void openAtOnce() {
        Edge.of(33, "4 the 7th of ( [ not closed drive that is open at once (not until its FACT, closed, drive until its "
                + "PART ends), at it.");
        CenturyGates x = Check.with(ONE);
        Check.asks(x, "total ((((((1))))))", 1);
        Check.asksWrongAt(x, "total ((((((^(1)))))))", 4);
        Check.asks(x, "often [[[[[[all]]]]]]", 1);
        Check.asksWrongAt(x, "often [[[[[[^[all]]]]]]]", 4);
        Check.asks(x, "often not not not not not not all", 1);
        Check.asksWrongAt(x, "often not not not not not not ^not all", 4);
        Check.asks(x, "total closed closed closed closed closed closed 1", 0);
        Check.asksWrongAt(x, "total closed closed closed closed closed closed ^closed 1", 4);
        Check.asks(x, "total drive drive drive drive drive drive 1", -1);
        Check.asksWrongAt(x, "total drive drive drive drive drive drive ^drive 1", 4);
        Check.asks(x, "often not [closed (drive closed 1)=0]", 0);
        Check.asksWrongAt(x, "often not [closed (drive (^closed 1))=0]", 4);
        Check.asksWrongAt(x, "often not [closed (drive drive ^(1))=0]", 4);
        Check.asksWrongAt(x, "often not [not [not [^closed 1=0]]]", 4);
        Check.asksWrongAt(x, "often not [not [not [1=^drive 1]]]", 4);
        Check.asks(x, "total closed closed closed closed closed closed 1+closed closed closed closed closed closed 1", 0);
        Check.asks(x, "total closed closed closed closed closed closed 1*((((((7))))))", 0);
        Check.asks(x, "often not closed 1=drive drive drive drive drive 1 or not not not not not not all", 1);
        Check.asksWrongAt(x, "often not closed 1=drive drive drive drive drive ^drive 1", 4);
        Check.asks(x, "often [[[[[not 1=2 and closed 1=0 and (1)=1]]]]]", 1);
        Check.asksWrongAt(x, "often [[[[[not ^closed 1=0", 4);
        Check.asksWrongAt(x, "total closed min(min(min(min(min(1,min^(1", 4);
        Check.asksWrongAt(x, "total closed closed closed closed closed closed ^all", 1);
    }
}
