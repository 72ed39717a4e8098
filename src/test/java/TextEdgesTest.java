/** Promises 4 and 5, and the STATEMENTS and NAMES of section I, sentence by sentence. */
public final class TextEdgesTest {
    private static final String D = "district 9;";
    private static final String PQ = "district 9;place p;place q;";
    private static final String PQG = "district 9;place p;place q;gate g at 1;";

    public static void main(String[] args) {
        theTape();
        whatStays();
        howMany();
        gatesAndPlaces();
        ways();
        eras();
        cars();
        rules();
        names();
        blanks();
        faultCalls();
        Edge.finish(4, 5);
    }

    private static void theTape() {
        Edge.of(4, "The tape (it goes) is THE DISTRICT: how many STATEMENTS");
        CenturyGates x = new CenturyGates();
        Check.feed(x, D);
        Check.due("district()", x.district(), 1);
        Check.due("the tape goes", x.end(1), false);
        Check.feed(x, "district 9;pigs 1;pigs 1;");
        Check.due("district()", x.district(), 3);
        Check.feed(x, "district 4;");
        Check.due("district()", x.district(), -1);
        Check.due("the tape goes, with a fault", x.end(1), false);
        Check.due("district() of what is left", x.district(), -1);
        Check.due("its place", x.fault(1), 0);

        Edge.of(4, "one without a STATEMENT has FAULT 1 at its length");
        Check.fault(x, "", 1, 0);
        Check.fault(x, " ", 1, 1);
        Check.fault(x, "\n \n", 1, 3);
        Check.fault(x, " ".repeat(1600), 1, 1600);
    }

    private static CenturyGates rich() {
        CenturyGates x = Check.with("district 7;gate g at 1;place p;place q;place r;road p to q steps 2;"
                + "era e long 1 pace 1 from 1;car c at p to q from 3;sees 5;pigs 100;");
        x.put(0, 1);
        x.hold(0, 8);
        x.send(0, 2);
        x.send(0, 1);
        x.days(3);
        Check.feed(x, 1, 0, 0);
        x.see();
        return x;
    }

    private static void whatStays() {
        Edge.of(4, "NONE, refused (1), with a FAULT (all stays;");
        CenturyGates x = rich();
        Check.fault(x, "district 20;gate h at 2;place s;place t;era f long 9 pace 9 from 9;pigs 0;shuts all;gate i", 1, 90);
        int[] has = {7, 1, 3, 1, 1, 1, 3, 1, 3, 1, 5};
        for (int what = 0; what < has.length; what++) {
            Check.due("has(" + what + ")", x.has(what), has[what]);
        }
        Check.due("gate(0, 0)", x.gate(0, 0), 1);
        Check.due("letter(0, 0, 0)", x.letter(0, 0, 0), 7);
        Check.due("era(0, 3)", x.era(0, 3), 8);
        Check.due("car(0, 0)", x.car(0, 0), 1);
        Check.due("car(0, 3)", x.car(0, 3), 15);
        Check.due("pigs stay", x.chance(2), 2);
        Check.due("status(1)", x.status(1), 1);
        CenturyGates none = new CenturyGates();
        Check.fault(none, "district 20;gate g at 21;", 2, 22);
        Check.due("none stays none", none.has(0), 0);
        Check.due("none stays none", none.days(1), -1);

        Edge.of(4, "Without one all is as at first, nothing is KEPT, SEEN or can be undone; the seed stays.");
        CenturyGates y = rich();
        // from 0 the next DRAW of 100 is 92, from 1 it is 18
        y.seed(0);
        Check.tell(y, "district 7;gate g at 1;place p;place q;place r;road p to q steps 2;"
                + "era e long 1 pace 1 from 1;car c at p to q from 3;sees 5;pigs 92;");
        int[] now = {7, 1, 3, 1, 1, 1, 0, 0, 0, 0, 0};
        for (int what = 0; what < now.length; what++) {
            Check.due("has(" + what + ")", y.has(what), now[what]);
        }
        Check.due("gate(0, 1)", y.gate(0, 1), 0);
        Check.due("era(0, 3)", y.era(0, 3), 0);
        Check.due("car(0, 0)", y.car(0, 0), 0);
        Check.due("car(0, 1)", y.car(0, 1), 1);
        Check.due("car(0, 3)", y.car(0, 3), 0);
        Check.due("kept(0, 0)", y.kept(0, 0), -1);
        Check.due("was(0, 0)", y.was(0, 0), 100);
        Check.due("undo()", y.undo(), false);
        Check.due("the seed stays", y.chance(1), 0);
        for (int n = 0; n < 3; n++) {
            oneBehindAnother(y, n);
        }
    }

    /** Nothing of a text before, good or bad, is left in the next one. */
    private static void oneBehindAnother(CenturyGates x, int bad) {
        String rich = "district 60;gate g at 1;place p;place q;lane p to q steps 2 over g;era e long 9 pace 1 from 0;"
                + "car c at p to q from 0;shuts minute<50;late 50;sees 7;pigs 100;";
        String plain = "district 30;gate g at 1;place p;place q;lane p to q steps 2 over g;era e long 9 pace 1 from 0;"
                + "car c at p to q from 0;";
        Check.tell(x, rich);
        Check.due("closed(0, 40)", x.closed(0, 40), 1);
        Check.due("chance(1)", x.chance(1), 1);
        Check.due("knows", x.car(0, 3), 7);
        for (int n = 0; n < bad; n++) {
            Check.fault(x, rich + "!", 1, rich.length());
        }
        Check.tell(x, plain);
        Check.due("closed(0, 10)", x.closed(0, 10), 1);
        Check.due("closed(0, 11)", x.closed(0, 11), 0);
        Check.due("late", x.late(0, 1), 0);
        Check.due("knows", x.later(0, 1, 1), 11);
        Check.due("no pigs", x.chance(9), 0);
        for (int n = 0; n < bad; n++) {
            Check.fault(x, rich + "gate", 1, rich.length() + 4);
        }
        Check.fault(x, "", 1, 0);
        Check.tell(x, "district 6;");
        for (int what = 0; what <= 10; what++) {
            Check.due("has(" + what + ")", x.has(what), what == 0 ? 6 : 0);
        }
    }

    private static String pigs(int times) {
        return "pigs 1;".repeat(times);
    }

    private static void howMany() {
        Edge.of(4, "A DISTRICT is a text: { STATEMENT ; } (80 at most)");
        Check.due("80", Check.with(D + pigs(79)).has(0), 9);
        Check.due("80, and blanks", Check.with(D + pigs(79) + " \n").has(0), 9);
        Check.faultAt(D + pigs(79) + "^pigs 1;", 5);
        Check.faultAt("district 9^", 1);
        Check.faultAt(D + pigs(78) + "pigs 1^", 1);
        Check.faultAt(D + "^;", 1);

        Edge.of(4, "district N (5 .. 60 miles, 0 and on to the last;");
        Check.faultAt("district ^0;", 2);
        Check.faultAt("district ^4;", 2);
        Check.due("district 5", Check.with("district 5;").has(0), 5);
        Check.due("district 60", Check.with("district 60;").has(0), 60);
        Check.faultAt("district ^61;", 2);
        Check.faultAt("district ^9999;", 2);

        Edge.of(4, "the first STATEMENT, and it alone)");
        Check.faultAt("^place p;district 9;", 1);
        Check.faultAt("^pigs 5;", 1);
        Check.faultAt("^shuts all;", 1);
        Check.faultAt(D + "^district 9;", 1);
        Check.faultAt(D + "place p;^district 9;", 1);
    }

    private static void gatesAndPlaces() {
        Edge.of(4, "gate NAME at N (a mile; 6 GATES)");
        CenturyGates x = Check.with("district 5;gate a at 0;gate b at 5;");
        Check.due("gate(0, 0)", x.gate(0, 0), 0);
        Check.due("gate(1, 0)", x.gate(1, 0), 5);
        Check.faultAt("district 5;gate a at ^6;", 2);
        Check.faultAt("district 60;gate a at ^61;", 2);
        String six = D + "gate a at 1;gate b at 1;gate c at 1;gate d at 1;gate e at 1;gate f at 1;";
        Check.due("six", Check.with(six).has(1), 6);
        Check.faultAt(six + "^gate h at 1;", 5);

        Edge.of(4, "place NAME (7 PLACES)");
        String seven = D + "place a;place b;place c;place d;place e;place f;place g;";
        Check.due("seven", Check.with(seven).has(2), 7);
        Check.faultAt(seven + "^place h;", 5);
    }

    private static void ways() {
        Edge.of(4, "road NAME to NAME steps N, lane NAME to NAME steps N over NAME (two unlike PLACES; 1 .. 60; a GATE;");
        Check.faultAt(PQG + "road p to ^p steps 1;", 3);
        Check.faultAt(PQG + "lane q to ^q steps 1 over g;", 3);
        Check.due("road, 1 and 60", Check.with(PQG + "road p to q steps 1;road q to p steps 60;").has(3), 2);
        Check.due("lane, 1 and 60", Check.with(PQG + "lane p to q steps 1 over g;lane q to p steps 60 over g;").has(3), 2);
        Check.faultAt(PQG + "road p to q steps ^0;", 2);
        Check.faultAt(PQG + "road p to q steps ^61;", 2);
        Check.faultAt(PQG + "lane p to q steps ^0 over g;", 2);
        Check.faultAt(PQG + "lane p to q steps ^61 over g;", 2);
        Check.faultAt(PQG + "lane p to q steps 1 over ^p;", 3);
        Check.faultAt(PQG + "lane p to q steps 1^;", 1);
        Check.faultAt(PQG + "road p to q steps 1 ^over g;", 1);

        Edge.of(4, "12 of both together; as many between two as one likes)");
        String roads = PQG + "road p to q steps 1;".repeat(12);
        String lanes = PQG + "lane p to q steps 1 over g;".repeat(12);
        String both = PQG + "road p to q steps 9;lane q to p steps 8 over g;".repeat(5)
                + "road q to p steps 3;road p to q steps 4;";
        Check.due("12 roads", Check.with(roads).has(3), 12);
        Check.due("12 lanes", Check.with(lanes).has(3), 12);
        CenturyGates x = Check.with(both);
        Check.due("12 of both", x.has(3), 12);
        Check.due("the soonest one of all", x.drive(0, 1, 0), 3);
        for (String text : new String[] {roads, lanes, both}) {
            Check.faultAt(text + "^road p to q steps 1;", 5);
            Check.faultAt(text + "^lane p to q steps 1 over g;", 5);
        }
    }

    private static String eras(int times) {
        StringBuilder text = new StringBuilder(D);
        for (int n = 0; n < times; n++) {
            text.append("era ").append((char) ('a' + n)).append(" long 1 pace 1 from 1;");
        }
        return text.toString();
    }

    private static void eras() {
        Edge.of(4, "era NAME long N pace N from N (a CENTURY; 1 .. 30 miles; 1 .. 9 miles a MINUTE; 0 .. 99; 5 ERAS)");
        CenturyGates x = Check.with(D + "era e long 1 pace 1 from 0;era f long 30 pace 9 from 99;");
        int[] least = {1, 1, 0};
        int[] greatest = {30, 9, 99};
        for (int what = 0; what < 3; what++) {
            Check.due("era(0, " + what + ")", x.era(0, what), least[what]);
            Check.due("era(1, " + what + ")", x.era(1, what), greatest[what]);
        }
        Check.faultAt(D + "era e long ^0 pace 1 from 1;", 2);
        Check.faultAt(D + "era e long ^31 pace 1 from 1;", 2);
        Check.faultAt(D + "era e long 1 pace ^0 from 1;", 2);
        Check.faultAt(D + "era e long 1 pace ^10 from 1;", 2);
        Check.faultAt(D + "era e long 1 pace 1 from ^100;", 2);
        Check.due("five", Check.with(eras(5)).has(4), 5);
        Check.faultAt(eras(5) + "^era f long 1 pace 1 from 1;", 5);
    }

    private static void cars() {
        Edge.of(4, "car NAME at NAME to NAME from N (two unlike PLACES; 0 .. 99; 5 CARS)");
        CenturyGates x = Check.with(PQ + "car c at p to q from 0;car d at q to p from 99;");
        Check.due("car(0, 2)", x.car(0, 2), 0);
        Check.due("car(1, 2)", x.car(1, 2), 99);
        Check.faultAt(PQ + "car c at p to ^p from 1;", 3);
        Check.faultAt(PQ + "car c at q to ^q from 1;", 3);
        Check.faultAt(PQ + "car c at p to q from ^100;", 2);
        StringBuilder five = new StringBuilder(PQ);
        for (char name = 'a'; name <= 'e'; name++) {
            five.append("car ").append(name).append(" at p to q from 1;");
        }
        Check.due("five", Check.with(five.toString()).has(5), 5);
        Check.faultAt(five + "^car f at p to q from 1;", 5);
    }

    private static void rules() {
        Edge.of(4, "shuts TEST, late SUM, sees SUM (one each)");
        Check.due("each once", Check.with(D + "sees 1;late 1;shuts all;").has(0), 9);
        Check.faultAt(D + "shuts all;^shuts all;", 5);
        Check.faultAt(D + "late 1;^late 1;", 5);
        Check.faultAt(D + "sees 1;^sees 1;", 5);
        Check.faultAt(D + "shuts all;late 1;sees 1;pigs 1;^shuts", 5);

        Edge.of(4, "pigs N (0 .. 100; the last one counts, 0 without)");
        String era = D + "era e long 1 pace 1 from 1;";
        Check.due("pigs 0", Check.with(era + "pigs 0;").chance(40), 0);
        Check.due("pigs 100", Check.with(era + "pigs 100;").chance(40), 40);
        Check.faultAt(D + "pigs ^101;", 2);
        Check.due("the last one is 0", Check.with(era + "pigs 100;pigs 0;").chance(40), 0);
        Check.due("the last one is 100", Check.with(era + "pigs 0;pigs 50;pigs 100;").chance(40), 40);
        Check.due("without", Check.with(era).chance(40), 0);
    }

    private static void names() {
        Edge.of(4, "NAMES: 1 to 6 letters, no OWN WORD, unlike ones (of all sorts), told ahead of where they are asked.");
        CenturyGates x = Check.with(D + "place a;place zzzzzz;");
        Check.due("one letter", x.letter(1, 0, 1), 0);
        Check.due("six letters", x.letter(1, 1, 5), 26);
        Check.faultAt(D + "place ^;", 1);
        Check.faultAt(D + "place zzzzzz^z;", 1);
        Check.faultAt(D + "place ^to;", 1);
        Check.due("alike but for the last letter", Check.with(D + "place abcdef;place abcdeg;place abcde;").has(2), 3);
        String all = PQG + "era e long 1 pace 1 from 1;car c at p to q from 1;";
        for (String name : "p q g e c".split(" ")) {
            Check.faultAt(all + "place ^" + name + ";", 3);
            Check.faultAt(all + "gate ^" + name + " at 1;", 3);
            Check.faultAt(all + "era ^" + name + " long 1 pace 1 from 1;", 3);
            Check.faultAt(all + "car ^" + name + " at p to q from 1;", 3);
        }
        Check.faultAt(D + "place p;road p to ^q steps 1;place q;", 3);
        Check.faultAt(PQ + "lane p to q steps 1 over ^g;gate g at 1;", 3);
        Check.faultAt(D + "place p;car c at p to ^q from 1;place q;", 3);

        Edge.of(4, "OWN WORDS, which no NAME is: district, gate, at, place, road, to, steps, lane, over, era, long, pace, "
                + "from, car, shuts, late, sees, pigs, ahead, behind, minute, day, waits, knows, number, closed, drive, "
                + "or, and, not, all, min, max.");
        for (String word : ("district gate at place road to steps lane over era long pace from car shuts late sees pigs "
                + "ahead behind minute day waits knows number closed drive or and not all min max").split(" ")) {
            Check.faultAt(D + "place ^" + word + ";", 1);
            Check.faultAt(PQ + "road ^" + word + " to q steps 1;", 1);
        }
        for (String word : "first last often total most least mi maxx ors".split(" ")) {
            Check.due(word, Check.with(D + "place " + word + ";").has(2), 1);
        }
    }

    private static void blanks() {
        Edge.of(4, "Blanks (10, 32) are where one likes (words and numbers side by side need one).");
        CenturyGates x = Check.with("\n district\n\n9 \n;  gate\ng at  4\n;\nshuts ( ahead ) < 3 and"
                + "[ all ]or not\n[all] ;late min ( 1 , 2 )* 3 ;\n");
        Check.due("gate(0, 0)", x.gate(0, 0), 4);
        Check.due("signs need none", Check.with(D + "shuts(ahead)<3 and[all]or not[(1)<(2)];late min(1,late)*3;").has(0), 9);
        Check.faultAt("district^9;", 1);
        Check.faultAt("^districtx 9;", 1);
        Check.faultAt(D + "gate g at^4;", 1);
        Check.faultAt(D + "gate g at 4^x;", 1);
        Check.faultAt(D + "shuts ahead<3^and behind<1;", 1);
        Check.faultAt(D + "shuts all and^3<4;", 1);
        // 59 is the number of the byte ; and 40 that of (
        Check.faultAt(D + "place p^59", 1);
        Check.faultAt(D + "late min^40 1,2);", 1);
        Check.faultAt("district^\t9;", 1);
        Check.faultAt("district^\r\n9;", 1);
        Check.faultAt("district 9;^\0", 1);
    }

    private static void faultCalls() {
        Edge.of(5, "Of the latest district() or ask(): its FAULT (what 0; 0 without, and ahead of any), its place (1; NONE without).");
        CenturyGates x = new CenturyGates();
        Check.due("ahead of any", x.fault(0), 0);
        Check.due("ahead of any", x.fault(1), -1);
        Check.fault(x, "district 4;", 2, 9);
        Check.tell(x, PQ + "car c at p to q from 1;");
        Check.asksWrong(x, "often", 1, 5);
        Check.asks(x, "often all", 1);
        Check.asksWrong(x, "total ((((((((1))))))))", 4, 12);
        Check.tell(x, D);
        Check.fault(x, "district 9;place at;", 1, 17);
        Check.feed(x, 0, 0, 0);
        x.see();
        x.on();
        Check.due("see(), on() leave it", x.fault(0), 1);
        Check.due("see(), on() leave it", x.fault(1), 17);
        Check.asks(x, "often all", 0);

        Edge.of(5, "NONE for another what.");
        for (int what : new int[] {-1, 2, 3, Integer.MIN_VALUE, Integer.MAX_VALUE}) {
            Check.due("fault(" + what + ") without a fault", x.fault(what), -1);
            Check.due("fault(" + what + ") ahead of any", new CenturyGates().fault(what), -1);
        }
        Check.fault(x, "district 4;", 2, 9);
        for (int what : new int[] {-1, 2, 3, Integer.MIN_VALUE, Integer.MAX_VALUE}) {
            Check.due("fault(" + what + ") with a fault", x.fault(what), -1);
        }
    }
}
