/** A district is told, asked about, changed, undone, and brought back from its image. */
public final class Example {
    private static final String FENS = "district 20; gate gog at 6; gate mag at 12; place ely; place lyn; place wis;"
            + "road ely to lyn steps 9; lane ely to wis steps 2 over gog; lane wis to lyn steps 3 over mag;"
            + "era old long 4 pace 2 from 1; era new long 2 pace 3 from 10;"
            + "car jon at ely to lyn from 1; car pam at lyn to wis from 9; late late+waits/2; pigs 50;";

    public static void main(String[] args) {
        CenturyGates x = new CenturyGates();
        feed(x, FENS.getBytes());
        tell("STATEMENTS", x.district());
        tell("GATE mag is CLOSED in MINUTE 9", x.closed(1, 9));
        tell("it is open from", x.opens(1, 9));
        tell("CAR pam WAITS", x.waits(1));
        tell("GATES to LIFT for her to be there in MINUTE 12, as bits", x.lift(1, 12));
        tell("KEEPERS", x.keepers());

        feed(x, "most drive 2 - from".getBytes());
        tell("the longest any CAR is on its way to wis", x.ask());
        feed(x, "total waits +".getBytes());
        tell("a QUESTION that ends too soon is answered by NOTHING", x.ask());
        tell("its FAULT", x.fault(0));
        tell("its place", x.fault(1));

        feed(x, new byte[] {10, 0, 1});
        tell("rows SEEN: GATE gog was CLOSED in MINUTE 10", x.see());
        tell("ERA old was late by at least", x.was(0, 1));
        tell("and at most", x.was(0, 2));

        tell("MINUTES waited in three DAYS", x.days(3));
        byte[] image = new byte[x.image()];
        for (int k = 0; k < image.length; k++) {
            image[k] = (byte) x.octet(k);
        }
        x.undo();
        tell("DAY, the three undone", x.has(6));
        feed(x, image);
        x.on();
        tell("DAY, as the image tells it", x.has(6));
    }

    /** Twenty bytes a call, the highest of each number first; end cuts off what fills the last row. */
    private static void feed(CenturyGates x, byte[] bytes) {
        for (int row = 0; row < bytes.length; row += 20) {
            int[] five = new int[5];
            for (int k = 0; k < 20; k++) {
                int it = row + k < bytes.length ? bytes[row + k] & 255 : 0;
                five[k / 4] = five[k / 4] << 8 | it;
            }
            x.feed(five[0], five[1], five[2], five[3], five[4]);
        }
        x.end(bytes.length);
    }

    private static void tell(String what, long answer) {
        System.out.println(what + ": " + answer);
    }
}
