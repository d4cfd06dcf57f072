/** Promise 17: still. */
final class P17StillTest {
    public static void main(String[] args) {
        NutsUp x = Check.nuts("g11;g22;g33", "f12");
        int[] due = {0, 1, 1, 2, 1, 2};
        for (int lie = 0; lie < 6; lie++) {
            Check.due("still(" + lie + ", 3, 0)", x.still(lie, 3, 0), due[lie]);
            Check.due("still(" + lie + ", 2, 1)", x.still(lie, 2, 1), 1);
            Check.due("still(" + lie + ", 1, 0)", x.still(lie, 1, 0), 0);
        }
        for (int n = 2; n <= 7; n++) {
            NutsUp alike = Check.nuts(Check.repeated("g11", n, ";"), "f01");
            Check.due("still(0, 1, 0) of " + n + " alike", alike.still(0, 1, 0), 0);
            Check.due("still(0, 1, 1) of " + n + " alike", alike.still(0, 1, 1), n);
            Check.due("still(last, 1, 1)", alike.still(alike.many(1) - 1, 1, 1), n);
        }
        aWayAndARound();
        longWays();
        refusals(x);
        Check.end();
    }

    /** 1 and 2 change for ever, behind 0 that has risen: 0, 1, 2 -> 1, 2, 0 -> 2, 1, 0 -> 1, 2, 0. */
    private static void aWayAndARound() {
        NutsUp x = Check.nuts("g31;g21;g21", "f01");
        Check.due("next(0, 1)", x.next(0, 1), 3);
        Check.due("next(3, 1)", x.next(3, 1), 5);
        Check.due("next(5, 1)", x.next(5, 1), 3);
        Check.due("still(0, 1, 0)", x.still(0, 1, 0), 1);
        Check.due("still(0, 1, 1)", x.still(0, 1, 1), 2);
        Check.due("still(3, 1, 0)", x.still(3, 1, 0), 0);
        Check.due("still(5, 1, 1)", x.still(5, 1, 1), 2);
    }

    /** Ways and rounds that are much longer than there are GRAINS, beside the same way gone step by step. */
    private static void longWays() {
        longWay("g11;g34lo;g17;g44;g47l;g39lo;g56lo", "h03;t43;f13;a01;r01;f02", 358, 3, 42, 42);
        longWay("g13lo;g21;g32l;g13;g32lo;g12;g23", "r02;f03;f02;h01;t41", 1822, 2, 4, 174);
        longWay("g65l;g66;g47lo;g68;g32;g62;g65", "h31;t33;f01;f02;f22;a02", 1870, 3, 20, 28);
    }

    private static void longWay(String box, String law, int lie, int hard, int still, int round) {
        NutsUp x = Check.nuts(box, law);
        java.util.List<Integer> been = new java.util.ArrayList<>();
        int now = lie;
        while (!been.contains(now)) {
            been.add(now);
            now = x.next(now, hard);
        }
        int first = been.indexOf(now);
        Check.due("still(" + lie + ", " + hard + ", 0) of " + box, x.still(lie, hard, 0), first);
        Check.due("still(" + lie + ", " + hard + ", 1) of " + box, x.still(lie, hard, 1), been.size() - first);
        Check.due("STILL as it is known to be", first, still);
        Check.due("ROUND as it is known to be", been.size() - first, round);
        Check.due("it comes again, so it is STILL now", x.still(now, hard, 0), 0);
    }

    private static void refusals(NutsUp x) {
        Check.due("still(6, 0, 0)", x.still(6, 0, 0), -1);
        Check.due("still(-1, 1, 2)", x.still(-1, 1, 2), -1);
        Check.due("still(0, 0, 0)", x.still(0, 0, 0), -2);
        Check.due("still(0, 4, 0)", x.still(0, 4, 0), -2);
        Check.due("still(0, 1, -1)", x.still(0, 1, -1), -2);
        Check.due("still(0, 1, 2)", x.still(0, 1, 2), -2);
        NutsUp y = Check.nuts("g11;g22");
        Check.due("still(0, 1, 1) without a LAW", y.still(0, 1, 1), -3);
        Check.due("still(0, 1, 2) without a LAW", y.still(0, 1, 2), -2);
        Check.due("still(2, 1, 1) without a LAW", y.still(2, 1, 1), -1);
    }
}
