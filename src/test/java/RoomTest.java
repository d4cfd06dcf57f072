import com.sun.management.ThreadMXBean;
import java.lang.management.ManagementFactory;

/** All 512 calls of an object, the dearest ones that there are, live in one room: they make next to nothing anew. */
final class RoomTest {
    /** The room has 7.3 million elements in all; an object shall fill no more than a tenth of it. */
    private static final long MOST_BYTES = 4 * 730_000L;
    /** What is left of the 512 behind the box and the laws. */
    private static final int CALLS = 340;
    private static final String SEVEN = "g11lo;g21l;g31;g41lo;g51l;g61;g71";

    private interface Calls {
        long make(NutsUp x, int c);
    }

    private static final ThreadMXBean BEAN = (ThreadMXBean) ManagementFactory.getThreadMXBean();
    private static long sum;

    public static void main(String[] args) {
        for (int warm = 0; warm < 2; warm++) {
            boolean counts = warm > 0;
            take("box of 2 to 7 by turns", 1, counts, (x, c) -> {
                int n = 3 + 4 * (1 + c % 6);
                return x.box(0, 0, 0, n);
            });
            take("fifth laws", 1, counts, (x, c) -> x.law(1, 0, 0, 23));
            take("shake", 1, counts, (x, c) -> x.shake(1 + c % 3, 99));
            take("still by all LAWS", 2, counts, (x, c) -> x.use(c % 4) + x.still(c * 9, 1 + c % 3, 0));
            take("boss", 1, counts, (x, c) -> x.boss(c % 7, c * 9, 3));
            take("plan", 2, counts, (x, c) -> x.lay(c * 9) + x.plan(c % 2, 9, c % 11 - 2));
            take("way", 1, counts, (x, c) -> x.way(c, 5039 - c, c % 9));
            take("come", 1, counts, (x, c) -> x.come(c, 99, 1 + c % 3));
            take("bare", 1, counts, (x, c) -> x.bare(1 + c % 3));
            take("odds", 1, counts, (x, c) -> x.odds(c % 7, 99, 1 + c % 3, 0));
            take("fits", 1, counts, (x, c) -> x.fits(c, 1 + c % 3));
            take("bears", 1, counts, (x, c) -> x.bears(1 + c % 3, 0));
            take("sheet", 1, counts, (x, c) -> x.sheet(c % 4, 2, 60));
            take("tell, sift", 2, counts, (x, c) -> x.tell(c % 7) + x.sift(c % 7));
        }
        Check.due("they were all made", sum == 0 ? 0 : 1, 1);
        Check.end();
    }

    private static void take(String told, int callsOfOne, boolean counts, Calls calls) {
        int[] box = Check.codes("g11;g22;g33;g44;g55;g66;g77");
        long before = BEAN.getCurrentThreadAllocatedBytes();
        NutsUp x = Check.nuts(SEVEN, "f01;h12", "r11;t33", "h01;n32;f23");
        Check.law(x, "t93;r92;h91;f03;a42;f01");
        Check.row(x, 1, 0, Check.codes("f11;f11;f11;f11;f11;f11"));
        Check.row(x, 0, 0, box);
        for (int c = 0; c < CALLS / callsOfOne; c++) {
            sum += calls.make(x, c);
        }
        long made = BEAN.getCurrentThreadAllocatedBytes() - before;
        if (counts) {
            Check.due(told + " makes " + made + " bytes, at most", made <= MOST_BYTES ? 1 : 0, 1);
        }
    }
}
