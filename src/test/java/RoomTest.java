import com.sun.management.ThreadMXBean;
import java.lang.management.ManagementFactory;

/** All calls of a run share one room: an object is small, and calls make next to nothing. */
public final class RoomTest {
    private static final ThreadMXBean THREADS = (ThreadMXBean) ManagementFactory.getThreadMXBean();
    private static long sink = 0;

    public static void main(String[] args) {
        int[][] district = rows(Fens.FENS);
        int[][] question = rows("total closed number+drive to*waits-min(from,knows)");
        use(new CenturyGates(), district, question);
        long start = bytes();
        CenturyGates x = new CenturyGates();
        long made = bytes() - start;
        Check.due("a new object takes " + made + " bytes", made < 80000, true);
        start = bytes();
        for (int n = 0; n < 20; n++) {
            use(x, district, question);
        }
        long used = bytes() - start;
        Check.due("20 rounds of calls take " + used + " bytes", used < 80000, true);
        start = bytes();
        for (int n = 0; n < 20; n++) {
            use(x, district, question);
        }
        long again = bytes() - start;
        Check.due("20 rounds more take " + again + " bytes", again < 4000, true);
        System.out.println("a new object " + made + ", 20 rounds " + used + ", 20 more " + again + " bytes; " + sink);
        Check.finish();
    }

    private static long bytes() {
        return THREADS.getThreadAllocatedBytes(Thread.currentThread().getId());
    }

    private static int[][] rows(String text) {
        int[][] rows = new int[(text.length() + 19) / 20 + 1][5];
        for (int k = 0; k < 20 * (rows.length - 1); k++) {
            int sign = k < text.length() ? text.charAt(k) : ' ';
            rows[k / 20][k % 20 / 4] = rows[k / 20][k % 20 / 4] << 8 | sign;
        }
        rows[rows.length - 1][0] = text.length();
        return rows;
    }

    private static void feed(CenturyGates x, int[][] rows) {
        for (int k = 0; k < rows.length - 1; k++) {
            x.feed(rows[k][0], rows[k][1], rows[k][2], rows[k][3], rows[k][4]);
        }
        x.end(rows[rows.length - 1][0]);
    }

    private static void use(CenturyGates x, int[][] district, int[][] question) {
        feed(x, district);
        sink += x.district();
        for (int era = 0; era < 2; era++) {
            sink += x.was(era, 0) + x.tells(era, 0) + x.late(era, 60) + x.head(era, 9);
        }
        for (int car = 0; car < 2; car++) {
            sink += x.later(car, 60, 1) + x.lift(car, 9) + x.leave(car, 1) + x.waits(car);
        }
        for (int n = 0; n < 21; n++) {
            x.hold(0, n % 2 + 1);
        }
        sink += x.days(40) + x.chance(40) + x.keepers() + x.closings(0, 0) + x.image() + x.opens(0, 3);
        x.undo();
        feed(x, question);
        sink += x.ask() + x.drive(0, 1, 5) + x.closed(1, 7);
    }
}
