/** Promises 4 and 5: what a DISTRICT is, and the FAULTS of one that is none. */
public final class DistrictTest {
    private static final String D = "district 9;";
    private static final String PQ = "district 9;place p;place q;";

    public static void main(String[] args) {
        emptyOnes();
        words();
        numbers();
        names();
        sideBySide();
        tooMany();
        rules();
        openAtOnce();
        whatStays();
        oneBehindAnother();
        fullTapes();
        Check.finish();
    }

    private static void bad(String text, int kind, int place) {
        Check.fault(new CenturyGates(), text, kind, place);
    }

    private static void badAt(String marked, int kind) {
        Check.faultAt(marked, kind);
    }

    private static void emptyOnes() {
        bad("", 1, 0);
        bad("  \n ", 1, 4);
        badAt("^;", 1);
        badAt("district 9^", 1);
        badAt("district 9  \n^", 1);
        badAt("district^", 1);
        badAt("district 9;gate g at 4^", 1);
        badAt("district 9; ^;", 1);
        Check.with("  district\n 9 ;\n");
        Check.with("district 9;place p ;");
    }

    private static void words() {
        badAt("^gate g at 1;", 1);
        badAt("^distric 9;", 1);
        badAt("^districts 9;", 1);
        badAt("^District 9;", 1);
        badAt("^9;", 1);
        badAt(D + "^district 9;", 1);
        badAt(D + "^at;", 1);
        badAt(D + "^x;", 1);
        badAt(D + "^first all;", 1);
        badAt(D + "gate g ^to 1;", 1);
        badAt(D + "gate g at ^g;", 1);
        badAt(D + "gate g at 1 ^2;", 1);
        badAt(D + "gate g at 1^,", 1);
        badAt(D + "gate^\tg at 1;", 1);
        badAt(D + "gate ^\u00e9;", 1);
        badAt("district ^-5;", 1);
        badAt("district ^;", 1);
        badAt(PQ + "road p ^q;", 1);
        badAt(PQ + "road p to q ^over;", 1);
        badAt(PQ + "road p to q steps 1 ^over p;", 1);
        badAt(PQ + "lane p to q steps 1^;", 1);
        badAt(D + "era e ^pace 1;", 1);
        badAt(D + "era e long 1 ^from 1;", 1);
        badAt(D + "era e long 1 pace 1^;", 1);
        badAt(PQ + "car c ^p;", 1);
        badAt(PQ + "car c at p ^from 1;", 1);
        badAt(PQ + "car c at p to q^;", 1);
        badAt(D + "pigs ^x;", 1);
        badAt(D + "pigs^;", 1);
    }

    private static void numbers() {
        badAt("district ^4;", 2);
        Check.with("district 5;");
        Check.with("district 60;");
        Check.with("district 0060;");
        badAt("district ^61;", 2);
        badAt("district ^9999x", 2);
        badAt("district 1234^5;", 1);
        badAt("district 0000^9;", 1);
        Check.with(D + "gate g at 0;gate h at 9;");
        badAt(D + "gate g at ^10;", 2);
        Check.with(PQ + "road p to q steps 1;road p to q steps 60;");
        badAt(PQ + "road p to q steps ^0;", 2);
        badAt(PQ + "road p to q steps ^61;", 2);
        Check.with(D + "era e long 1 pace 1 from 0;era f long 30 pace 9 from 99;");
        badAt(D + "era e long ^0;", 2);
        badAt(D + "era e long ^31;", 2);
        badAt(D + "era e long 1 pace ^0;", 2);
        badAt(D + "era e long 1 pace ^10;", 2);
        badAt(D + "era e long 1 pace 1 from ^100;", 2);
        Check.with(PQ + "car c at p to q from 0;car d at q to p from 99;");
        badAt(PQ + "car c at p to q from ^100;", 2);
        Check.with(D + "pigs 0;pigs 100;");
        badAt(D + "pigs ^101;", 2);
        Check.with(D + "late 9999;");
        badAt(D + "late 1000^0;", 1);
        badAt(D + "shuts ahead<1000^0;", 1);
    }

    private static void names() {
        Check.with(D + "gate abcdef at 1;place first;place last;");
        badAt(D + "gate abcdef^g at 1;", 1);
        badAt(D + "place abcdef^ghij;", 1);
        badAt(PQ + "road pppppp^p to q;", 1);
        String[] own = {"district", "gate", "at", "place", "road", "to", "steps", "lane", "over", "era", "long",
            "pace", "from", "car", "shuts", "late", "sees", "pigs", "ahead", "behind", "minute", "day", "waits",
            "knows", "number", "closed", "drive", "or", "and", "not", "all", "min", "max"};
        for (String word : own) {
            badAt(D + "place ^" + word + ";", 1);
        }
        badAt(D + "place distri^cts;", 1);
        for (String word : new String[] {"first", "last", "often", "total", "most", "least", "atat"}) {
            Check.with(D + "place " + word + ";");
        }
        badAt(D + "place ^;", 1);
        badAt(D + "place ^1;", 1);
        String all = PQ + "gate g at 1;era e long 1 pace 1 from 1;car c at p to q from 1;";
        for (String name : new String[] {"p", "g", "e", "c"}) {
            badAt(all + "gate ^" + name + " at 1;", 3);
            badAt(all + "place ^" + name + ";", 3);
            badAt(all + "era ^" + name + " long 1 pace 1 from 1;", 3);
            badAt(all + "car ^" + name + " at p to q from 1;", 3);
        }
        for (String name : new String[] {"g", "e", "c", "x"}) {
            badAt(all + "road ^" + name + " to p steps 1;", 3);
            badAt(all + "lane p to ^" + name + " steps 1 over g;", 3);
            badAt(all + "car d at ^" + name + " to p from 1;", 3);
            badAt(all + "car d at p to ^" + name + " from 1;", 3);
        }
        for (String name : new String[] {"p", "e", "c", "x"}) {
            badAt(all + "lane p to q steps 1 over ^" + name + ";", 3);
        }
        badAt(PQ + "road p to ^p steps 1;", 3);
        badAt(PQ + "gate g at 1;lane q to ^q steps 1 over g;", 3);
        badAt(PQ + "car c at q to ^q from 1;", 3);
        badAt(D + "road ^p to q steps 1;place p;place q;", 3);
        badAt(PQ + "car c at ^c to q from 1;", 3);
    }

    private static void sideBySide() {
        badAt("district^9;", 1);
        badAt("district^99999;", 1);
        badAt("district 9^x;", 1);
        badAt(D + "gate g at^1;", 1);
        badAt(D + "gate g^1 at 1;", 1);
        badAt(D + "era e long 4^pace 2 from 1;", 1);
        badAt(D + "era e long ^0pace 2 from 1;", 2);
        badAt(D + "shuts ahead<3^and behind<1;", 1);
        badAt(D + "shuts not^3<4;", 1);
        badAt(D + "shuts 1<2 or^3<4;", 1);
        badAt(D + "shuts 1<2 ^oror 3<4;", 1);
        Check.with(D + "shuts(ahead)<3 and(3)<behind and[all]or not[not all];");
        Check.with(D + "late min(1,2)*max(late,3);");
    }

    private static void tooMany() {
        StringBuilder gates = new StringBuilder(D);
        StringBuilder places = new StringBuilder(D);
        StringBuilder eras = new StringBuilder(D);
        StringBuilder cars = new StringBuilder(PQ);
        StringBuilder ways = new StringBuilder(PQ + "gate g at 1;");
        for (char c = 'a'; c <= 'f'; c++) {
            gates.append("gate ").append(c).append(" at 1;");
        }
        for (char c = 'a'; c <= 'g'; c++) {
            places.append("place ").append(c).append(";");
        }
        for (char c = 'a'; c <= 'e'; c++) {
            eras.append("era ").append(c).append(" long 1 pace 1 from 1;");
            cars.append("car ").append(c).append(" at p to q from 1;");
        }
        for (int n = 0; n < 6; n++) {
            ways.append("road p to q steps 1;lane q to p steps 1 over g;");
        }
        Check.with(gates.toString());
        Check.with(places.toString());
        Check.with(eras.toString());
        Check.with(cars.toString());
        Check.with(ways.toString());
        badAt(gates + " ^gate", 5);
        badAt(gates + " ^gate g at 1;", 5);
        badAt(places + " ^place x;", 5);
        badAt(eras + " ^era 7", 5);
        badAt(cars + " ^car x", 5);
        badAt(ways + " ^road", 5);
        badAt(ways + " ^lane", 5);
        badAt(gates + " ^gates", 1);
        StringBuilder many = new StringBuilder(D);
        for (int n = 1; n < 80; n++) {
            many.append("pigs 1;");
        }
        Check.with(many + "  ");
        badAt(many + " ^pigs 1;", 5);
        badAt(many + "\n^!", 5);
        badAt(many + "^district", 5);
        badAt(many + "^;", 5);
    }

    private static void rules() {
        badAt(D + "shuts all;^shuts all;", 5);
        badAt(D + "late 1;pigs 1;^late 1;", 5);
        badAt(D + "sees 1; ^sees", 5);
        badAt(D + "shuts ahead^;", 1);
        badAt(D + "shuts ahead<^;", 1);
        badAt(D + "shuts ahead<1^<2;", 1);
        badAt(D + "shuts (ahead^<1);", 1);
        badAt(D + "shuts [ahead<1^);", 1);
        badAt(D + "shuts [ahead^];", 1);
        badAt(D + "shuts ^;", 1);
        badAt(D + "shuts all ^all;", 1);
        badAt(D + "shuts all and ^;", 1);
        badAt(D + "shuts ahead^!<1;", 1);
        badAt(D + "late 1^<2;", 1);
        badAt(D + "late ^all;", 1);
        badAt(D + "late ^-1;", 1);
        badAt(D + "late ^not 1;", 1);
        badAt(D + "late min ^1;", 1);
        badAt(D + "late min(1^);", 1);
        badAt(D + "late max(1,2^,3);", 1);
        badAt(D + "late (1^;", 1);
        badAt(D + "late 1+^;", 1);
        badAt(D + "late 1*^*2;", 1);
        badAt(D + "late ^xyz;", 1);
        badAt(D + "late ^abcdefghi;", 1);
        parts("shuts ", "<1", "ahead behind long pace minute");
        parts("late ", "", "late long pace day waits");
        parts("sees ", "", "waits knows day");
    }

    private static void parts(String rule, String rest, String good) {
        String all = "ahead behind long pace minute late day waits knows number at to from closed drive district";
        for (String part : all.split(" ")) {
            if ((" " + good + " ").contains(" " + part + " ")) {
                Check.with(D + rule + part + rest + ";");
            } else {
                badAt(D + rule + "^" + part + rest + ";", 1);
            }
        }
    }

    private static void openAtOnce() {
        Check.with(D + "late ((((((1))))));");
        badAt(D + "late ((((((^(1)))))));", 4);
        Check.with(D + "sees ((((((1))))));");
        badAt(D + "sees ((((((^(1)))))));", 4);
        Check.with(D + "shuts ((((((1))))))<((((((1))))));");
        badAt(D + "shuts 1<((((((^(1)))))));", 4);
        badAt(D + "late ((((((^(", 4);
        Check.with(D + "late (((((1)))))+((((((1))))));");
        Check.with(D + "shuts not not not not not not all;");
        badAt(D + "shuts not not not not not not ^not all;", 4);
        badAt(D + "shuts [[[[[[^[all]]]]]]];", 4);
        Check.with(D + "shuts not [not [not [all]]] and not [not [not [1<2 and 1<2 or 1=1]]];");
        badAt(D + "shuts not [not [not [^(1)<2]]];", 4);
        badAt(D + "shuts not [not [not [1<^(2)]]];", 4);
        badAt(D + "shuts not [not [not [^not all]]];", 4);
        badAt(D + "shuts not [not [not [^[all]]]];", 4);
        Check.with(D + "shuts not [not [not all]] and not [not [not [all]]];");
        badAt(D + "late min(min(min(min(min(min(min^(1,1),1),1),1),1),1),1);", 4);
        Check.with(D + "late max(min(min(min(min(max(1,2),1),1),1),1),max(1,(1)));");
        badAt(D + "late ((((((min ^(", 4);
        badAt(D + "late ((((((min ^1", 1);
        badAt(D + "late ((((((^not", 1);
        badAt(D + "shuts [[[[[[^not all", 4);
    }

    private static void whatStays() {
        CenturyGates x = Check.with("district 7;gate g at 1;place p;place q;road p to q steps 2;"
                + "era e long 1 pace 1 from 1;car c at p to q from 3;pigs 3;");
        x.put(0, 1);
        x.days(2);
        Check.feed(x, 1, 0, 0);
        x.see();
        Check.fault(x, "district 20;gate g at 3;gate h at 30;", 2, 34);
        int[] has = {7, 1, 2, 1, 1, 1, 2, 1, 2, 1, 2, -1};
        for (int what = 0; what < has.length; what++) {
            Check.due("has(" + what + ") behind a fault", x.has(what), has[what]);
        }
        Check.due("gate(0, 0) behind a fault", x.gate(0, 0), 1);
        Check.tell(x, "district 8;gate g at 3;");
        int[] now = {8, 1, 0, 0, 0, 0, 0, 0, 0, 0, 0, -1};
        for (int what = 0; what < now.length; what++) {
            Check.due("has(" + what + ") of the next one", x.has(what), now[what]);
        }
        Check.due("undo()", x.undo(), false);
        Check.due("status(1) stays", x.status(1), 1);
        Check.due("was without an era", x.was(0, 0), -1);
        Check.tell(x, "district 8;gate g at 3;era e long 1 pace 1 from 1;");
        Check.due("the rules of a text before are gone", x.closed(0, 1), 0);
        Check.due("and closed", x.closed(0, 2), 1);
    }

    /** Nothing of a text before, good or bad, is left in the next one. */
    private static void oneBehindAnother() {
        CenturyGates x = new CenturyGates();
        String rich = "district 30;gate g at 1;place p;place q;lane p to q steps 2 over g;"
                + "era e long 9 pace 1 from 0;car c at p to q from 0;shuts all;late 50;sees 7;pigs 100;";
        String plain = "district 30;gate g at 1;place p;place q;lane p to q steps 2 over g;"
                + "era e long 9 pace 1 from 0;car c at p to q from 0;";
        for (int n = 0; n < 3; n++) {
            Check.tell(x, rich);
            x.days(1);
            Check.due("era(0, 3)", x.era(0, 3), 50);
            Check.due("car(0, 3)", x.car(0, 3), 7);
            Check.due("chance(1)", x.chance(1), 1);
            for (int k = 0; k <= n; k++) {
                Check.fault(x, rich + "^", 1, rich.length());
            }
            Check.tell(x, plain);
            Check.due("era(0, 3) is as at first", x.era(0, 3), 0);
            Check.due("car(0, 3) is as at first", x.car(0, 3), 0);
            Check.due("car(0, 0) is as at first", x.car(0, 0), 0);
            Check.due("shuts without a statement", x.closed(0, 30), 0);
            Check.due("closed(0, 10)", x.closed(0, 10), 1);
            Check.due("closed(0, 11)", x.closed(0, 11), 0);
            Check.due("sees without a statement", x.later(0, 1, 1), 11);
            Check.due("late without a statement", x.late(0, 1), 0);
            Check.due("no pigs", x.chance(9), 0);
            Check.tell(x, "district 6;");
            for (int what = 0; what <= 10; what++) {
                Check.due("has(" + what + ")", x.has(what), what == 0 ? 6 : 0);
            }
        }
        Check.fault(x, rich + "gate", 1, rich.length() + 4);
        Check.fault(x, "", 1, 0);
        Check.due("has(0) stays", x.has(0), 6);
    }

    private static void fullTapes() {
        bad(";".repeat(1600), 1, 0);
        bad(" ".repeat(1600), 1, 1600);
        bad("a".repeat(1600), 1, 0);
        bad("1".repeat(1600), 1, 0);
        bad(D + "late " + "1+".repeat(792), 1, 1600);
        String rule = D + "era e long 1 pace 1 from 1;late ";
        int ones = (1600 - rule.length() - 1) / 2;
        Check.due("behind the longest rule", Check.with(rule + "1-".repeat(ones - 50) + "1+".repeat(50 - 1) + "1;")
                .late(0, 1), 0);
        StringBuilder long60 = new StringBuilder(rule).append("60");
        while (long60.length() < 1595) {
            long60.append("+1-1");
        }
        Check.due("behind the longest rule", Check.with(long60 + ";").late(0, 1), 60);
        Check.due("a blank at the end", Check.with(D + " ".repeat(1600 - D.length())).has(0), 9);
    }
}
