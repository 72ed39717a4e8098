/** Districts that several tests use. */
final class Fens {
    /** Three PLACES, two GATES, two ERAS, two CARS. */
    static final String FENS = "district 20;gate gog at 6;gate mag at 12;place ely;place lyn;place wis;"
            + "road ely to lyn steps 9;lane ely to wis steps 2 over gog;lane wis to lyn steps 3 over mag;"
            + "era old long 4 pace 2 from 1;era new long 2 pace 3 from 10;"
            + "car jon at ely to lyn from 1;car pam at lyn to wis from 9;"
            + "late late+waits/2;sees waits*2+1;pigs 50;";

    /** One lane over a GATE that is closed in the MINUTES 0 .. 35. */
    static final String LONG_WAIT = "district 5;gate g at 0;place a;place b;lane a to b steps 1 over g;"
            + "era e long 30 pace 1 from 0;car c at a to b from 0;shuts all;";

    private Fens() {
    }
}
