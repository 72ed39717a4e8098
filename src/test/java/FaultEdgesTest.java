/** Promise 5: the FAULTS of section I, sentence by sentence. */
public final class FaultEdgesTest {
    private static final String D = "district 9;";
    private static final String PQ = "district 9;place p;place q;";
    private static final String PQG = "district 9;place p;place q;gate g at 1;";

    public static void main(String[] args) {
        theFirst();
        noSuchText();
        wordsWhole();
        lettersAndDigits();
        tooSoon();
        numbers();
        names();
        openAtOnce();
        tooMany();
        Edge.finish(5);
    }

    private static void theFirst() {
        Edge.of(5, "FAULTS, the first along the text:");
        Check.faultAt("district ^4;district 9;", 2);
        Check.faultAt(D + "place p;place ^p;gate q at 10;", 3);
        Check.faultAt(D + "gate q at ^10;place p;place p;", 2);
        Check.faultAt(PQ + "road p to ^p steps 0;", 3);
        Check.faultAt(PQ + "road p to q steps ^0;road p to p steps 1;", 2);
        Check.faultAt(PQ + "lane p to q steps ^61 over p;", 2);
        Check.faultAt(D + "late ((((((^((12345", 4);
        Check.faultAt(D + "late 1234^5((((((((", 1);
        Check.faultAt(D + "shuts all;^shuts;late;", 5);
        Check.faultAt(D + "place ^;shuts all;shuts all;", 1);
    }

    private static void noSuchText() {
        Edge.of(5, "1 the first byte with which no such text goes on");
        Check.faultAt("^!", 1);
        Check.faultAt("^;", 1);
        Check.faultAt("district ^;", 1);
        Check.faultAt("district ^-9;", 1);
        Check.faultAt("district 9^.", 1);
        Check.faultAt("district 9^,place p;", 1);
        Check.faultAt(D + "^;", 1);
        Check.faultAt(D + "gate g at 1;^;", 1);
        Check.faultAt(D + "gate^_g at 1;", 1);
        Check.faultAt(D + "gate g^\u00ff", 1);
        Check.faultAt(D + "place a^`;", 1);
        Check.faultAt(D + "place ^{;", 1);
        Check.faultAt(D + "place ^A;", 1);
        Check.faultAt(D + "place z^Z;", 1);
        Check.faultAt("district 9^:", 1);
        Check.faultAt("district ^/9;", 1);
        Check.faultAt(D + "shuts ahead>^=3;", 1);
        Check.faultAt(D + "shuts ahead<3^)", 1);
        Check.faultAt(D + "shuts [all^)", 1);
        Check.faultAt(D + "late (1^]", 1);
        Check.faultAt(D + "late min(1^)", 1);
        Check.faultAt(D + "late max(1,1^,", 1);
        Check.faultAt(D + "late ^-1;", 1);
        Check.faultAt(D + "late 1^=1;", 1);
        Check.faultAt(D + "late ^[1];", 1);
        Check.faultAt(D + "shuts (^all", 1);
    }

    private static void wordsWhole() {
        Edge.of(5, "(words and numbers whole, at their first byte;");
        Check.faultAt("^distric 9;", 1);
        Check.faultAt("^districts 9;", 1);
        Check.faultAt("^dis", 1);
        Check.faultAt("^District 9;", 1);
        Check.faultAt("^12;", 1);
        Check.faultAt("^123456;", 1);
        Check.faultAt("district ^nine;", 1);
        Check.faultAt(D + "^gatex", 1);
        Check.faultAt(D + "^gat", 1);
        Check.faultAt(D + "^placements", 1);
        Check.faultAt(D + "gate g ^att 1;", 1);
        Check.faultAt(D + "gate g ^123456;", 1);
        Check.faultAt(D + "gate g at 1 ^234567;", 1);
        Check.faultAt(D + "shuts ^aheads<1;", 1);
        Check.faultAt(D + "shuts all ^andy all;", 1);
        Check.faultAt(D + "shuts all ^orr all;", 1);
        Check.faultAt(D + "late ^minimum(1,2);", 1);
        Check.faultAt(D + "late ^ahead;", 1);
        Check.faultAt(D + "sees ^late;", 1);
        Check.faultAt(D + "shuts ^knows<1;", 1);
        Check.faultAt(D + "gate ^12345 at 1;", 1);
    }

    private static void lettersAndDigits() {
        Edge.of(5, "where a NAME is asked, an OWN WORD so, a 7th letter at itself;");
        Check.faultAt(D + "gate ^at 1;", 1);
        Check.faultAt(D + "place ^district;", 1);
        Check.faultAt(PQG + "lane p to q steps 1 over ^closed;", 1);
        Check.faultAt(PQ + "car c at ^to to q from 1;", 1);
        Check.faultAt(D + "gate abcdef^g at 1;", 1);
        Check.faultAt(D + "gate abcdef^ghijklm at 1;", 1);
        Check.faultAt(D + "gate distri^cts at 1;", 1);
        Check.faultAt(D + "era closed^x", 1);
        Check.faultAt(PQ + "road pppppp^p to q steps 1;", 1);
        Check.faultAt(PQ + "road p to qqqqqq^q steps 1;", 1);
        Check.faultAt(PQG + "lane p to q steps 1 over gggggg^g;", 1);
        Check.faultAt(PQ + "car cccccc^c at p to q from 1;", 1);

        Edge.of(5, "where a number is asked, a 5th digit at itself;");
        Check.faultAt("district 0000^9;", 1);
        Check.faultAt("district 1234^5;", 1);
        Check.faultAt("district 0009^99999;", 1);
        Check.faultAt(D + "gate g at 0000^1;", 1);
        Check.faultAt(PQ + "road p to q steps 0000^1;", 1);
        Check.faultAt(D + "era e long 0000^1", 1);
        Check.faultAt(D + "era e long 1 pace 0000^1", 1);
        Check.faultAt(D + "era e long 1 pace 1 from 0000^1", 1);
        Check.faultAt(PQ + "car c at p to q from 0000^1", 1);
        Check.faultAt(D + "pigs 0000^1", 1);
        Check.faultAt(D + "late 1000^0;", 1);
        Check.faultAt(D + "shuts 1<0000^0;", 1);
        Check.faultAt(D + "sees min(1,1234^5);", 1);
        Check.due("four digits", Check.with("district 0009;gate g at 0001;late 9999;").has(0), 9);
    }

    private static void tooSoon() {
        Edge.of(5, "at the text's length, if it ends too soon)");
        String[] texts = {"district", "district 9", "district 9 \n", D + "gate", D + "gate g", D + "gate g at",
            D + "gate g at 1", D + "place", D + "place p", PQ + "road", PQ + "road p", PQ + "road p to",
            PQ + "road p to q", PQ + "road p to q steps", PQ + "road p to q steps 1", PQ + "lane p to q steps 1",
            PQG + "lane p to q steps 1 over", PQG + "lane p to q steps 1 over g", D + "era", D + "era e long",
            D + "era e long 1 pace", D + "era e long 1 pace 1", D + "era e long 1 pace 1 from",
            D + "era e long 1 pace 1 from 1", PQ + "car c at", PQ + "car c at p to", PQ + "car c at p to q",
            PQ + "car c at p to q from", PQ + "car c at p to q from 1", D + "pigs", D + "pigs 1", D + "shuts",
            D + "shuts ahead", D + "shuts ahead<", D + "shuts not", D + "shuts [all", D + "shuts all and",
            D + "shuts all or ", D + "late", D + "late 1+", D + "late (", D + "late (1", D + "late min",
            D + "late min(1", D + "late min(1,", D + "sees 1*", D + "sees 1"};
        for (String text : texts) {
            Check.faultAt(text + "^", 1);
            Check.faultAt(text + "  \n^", 1);
        }
    }

    private static void numbers() {
        Edge.of(5, "2 a number that can't be, at it;");
        Check.faultAt("district ^04;", 2);
        Check.faultAt("district   ^0061;", 2);
        Check.faultAt("district\n^9999", 2);
        Check.faultAt(D + "gate g at ^0010;", 2);
        Check.faultAt(D + "pigs ^0101;", 2);
        Check.faultAt(D + "era e long ^0000 pace", 2);
    }

    private static void names() {
        Edge.of(5, "3 a NAME to be given that is there already,");
        Check.faultAt(PQ + "place ^q;", 3);
        Check.faultAt(PQG + "gate ^g at 1;", 3);
        Check.faultAt(PQG + "era ^g", 3);
        Check.faultAt(PQG + "car ^p", 3);

        Edge.of(5, "one that is none of what is asked,");
        Check.faultAt(PQG + "road ^g to q steps 1;", 3);
        Check.faultAt(PQG + "road p to ^g steps 1;", 3);
        Check.faultAt(PQG + "lane ^x to q steps 1 over g;", 3);
        Check.faultAt(PQG + "lane p to ^pp steps 1 over g;", 3);
        Check.faultAt(PQG + "lane p to q steps 1 over ^q;", 3);
        Check.faultAt(PQG + "car c at ^c to q from 1;", 3);
        Check.faultAt(PQG + "car c at p to ^c from 1;", 3);
        Check.faultAt(PQG + "car c at ^first to q from 1;", 3);

        Edge.of(5, "a second PLACE like the first, at it;");
        Check.faultAt(PQG + "road q to ^q steps 1;", 3);
        Check.faultAt(PQG + "lane p to ^p steps 1 over g;", 3);
        Check.faultAt(PQG + "car c at p to ^p from 1;", 3);
    }

    private static void openAtOnce() {
        Edge.of(5, "4 the 7th of ( [ not that is open at once (not until its FACT ends), at it;");
        Check.due("six (", Check.with(D + "late ((((((1))))));").has(0), 9);
        Check.faultAt(D + "late ((((((^(1)))))));", 4);
        Check.due("six [", Check.with(D + "shuts [[[[[[all]]]]]];").has(0), 9);
        Check.faultAt(D + "shuts [[[[[[^[all]]]]]]];", 4);
        Check.due("six not", Check.with(D + "shuts not not not not not not all;").has(0), 9);
        Check.faultAt(D + "shuts not not not not not not ^not all;", 4);
        Check.due("six of them", Check.with(D + "shuts not [not [not [all]]];").has(0), 9);
        Check.faultAt(D + "shuts not [not [not [^(1)<2]]];", 4);
        Check.faultAt(D + "shuts not [not [not [1<^(2)]]];", 4);
        Check.faultAt(D + "shuts not [not [not [^[all]]]];", 4);
        Check.faultAt(D + "shuts not [not [not [^not all]]];", 4);
        Check.faultAt(D + "shuts not not not not not not ^(1)<2;", 4);
        Check.faultAt(D + "shuts not not not not not not 1<^(2);", 4);
        Check.faultAt(D + "shuts not not not not not not ^[all];", 4);
        Check.due("not ends with its FACT", Check.with(D + "shuts not not not not not not 1<2 and ((((((1))))))<2 or "
                + "not not not not not not all;").has(0), 9);
        Check.due("not ends, [ stays", Check.with(D + "shuts [[[[[not 1<2 and (1)<2 or not all]]]]];").has(0), 9);
        Check.due("( ends", Check.with(D + "late (((((1)+(1))+(1)))*((1)))+((((((1))))));").has(0), 9);
        Check.due("min ( is a (", Check.with(D + "late min(min(min(min(min(min(1,2),2),2),2),2),2);").has(0), 9);
        Check.faultAt(D + "late min(min(min(min(min(min(min^(1,2),2),2),2),2),2),2);", 4);
        Check.faultAt(D + "late max(1,max(1,max(1,max(1,max(1,max(1,max ^(1", 4);
        Check.faultAt(D + "sees ((((((^(1", 4);
        Check.faultAt(D + "late ((((((min ^1", 1);
        Check.faultAt(D + "late ((((((^[", 1);
    }

    private static void tooMany() {
        String gates = D + "gate a at 1;gate b at 1;gate c at 1;gate d at 1;gate e at 1;gate f at 1;";
        Edge.of(5, "5 one too many of a kind (a second shuts, late, sees, too),");
        Check.faultAt(gates + "\n ^gate", 5);
        Check.faultAt(gates + "^gate a at 99;", 5);
        Check.faultAt(D + "place a;place b;place c;place d;place e;place f;place g;^place at", 5);
        Check.faultAt(D + "era a long 1 pace 1 from 1;era b long 1 pace 1 from 1;era c long 1 pace 1 from 1;"
                + "era d long 1 pace 1 from 1;era e long 1 pace 1 from 1;^era !", 5);
        Check.faultAt(PQ + "car a at p to q from 1;car b at p to q from 1;car c at p to q from 1;"
                + "car d at p to q from 1;car e at p to q from 1;^car", 5);
        Check.faultAt(PQ + "road p to q steps 1;".repeat(12) + "^road", 5);
        Check.faultAt(PQ + "road p to q steps 1;".repeat(12) + "^lane", 5);
        Check.faultAt(D + "shuts all; ^shuts", 5);
        Check.faultAt(D + "late 1; ^late", 5);
        Check.faultAt(D + "sees 1; ^sees", 5);
        Check.faultAt(gates + "^gates", 1);

        Edge.of(5, "an 81st STATEMENT (whatever stands there), at its first byte.");
        String eighty = D + "pigs 1;".repeat(79);
        for (String text : new String[] {"pigs 1;", "pigs 101;", "district 9;", "x", ";", "7", "12345", "!", "\0", "\t"}) {
            Check.faultAt(eighty + "^" + text, 5);
            Check.faultAt(eighty + "  \n^" + text, 5);
        }
        Check.faultAt(D + "pigs 1;".repeat(78) + "^x;", 1);
        Check.faultAt(D + "pigs 1;".repeat(78) + "pigs 1^!", 1);
    }
}
