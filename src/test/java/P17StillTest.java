/** Promise 17: still. */
final class P17StillTest {
    public static void main(String[] args) {
        NutsUp x = Check.nuts("g11;g22;g33", "f12");
        int[] due = {0, 1, 1, 2, 1, 2};
        for (int lie = 0; lie < 6; lie++) {
            Check.due("still(" + lie + ", 3, 0)", x.still(lie, 3, 0), due[lie]);
            Check.due("still(" + lie + ", 2, 1)", x.still(lie, 2, 1), 1);
            Check.due("still(" + lie + ", 1, 0)", x.still(lie, 1, 0), 0);
        }
        for (int n = 2; n <= 7; n++) {
            NutsUp alike = Check.nuts(Check.repeated("g11", n, ";"), "f01");
            Check.due("still(0, 1, 0) of " + n + " alike", alike.still(0, 1, 0), 0);
            Check.due("still(0, 1, 1) of " + n + " alike", alike.still(0, 1, 1), n);
            Check.due("still(last, 1, 1)", alike.still(alike.many(1) - 1, 1, 1), n);
        }
        aWayAndARound();
        refusals(x);
        Check.end();
    }

    /** 1 and 2 change for ever, behind 0 that has risen: 0, 1, 2 -> 1, 2, 0 -> 2, 1, 0 -> 1, 2, 0. */
    private static void aWayAndARound() {
        NutsUp x = Check.nuts("g31;g21;g21", "f01");
        Check.due("next(0, 1)", x.next(0, 1), 3);
        Check.due("next(3, 1)", x.next(3, 1), 5);
        Check.due("next(5, 1)", x.next(5, 1), 3);
        Check.due("still(0, 1, 0)", x.still(0, 1, 0), 1);
        Check.due("still(0, 1, 1)", x.still(0, 1, 1), 2);
        Check.due("still(3, 1, 0)", x.still(3, 1, 0), 0);
        Check.due("still(5, 1, 1)", x.still(5, 1, 1), 2);
    }

    private static void refusals(NutsUp x) {
        Check.due("still(6, 0, 0)", x.still(6, 0, 0), -1);
        Check.due("still(-1, 1, 2)", x.still(-1, 1, 2), -1);
        Check.due("still(0, 0, 0)", x.still(0, 0, 0), -2);
        Check.due("still(0, 4, 0)", x.still(0, 4, 0), -2);
        Check.due("still(0, 1, -1)", x.still(0, 1, -1), -2);
        Check.due("still(0, 1, 2)", x.still(0, 1, 2), -2);
        NutsUp y = Check.nuts("g11;g22");
        Check.due("still(0, 1, 1) without a LAW", y.still(0, 1, 1), -3);
        Check.due("still(0, 1, 2) without a LAW", y.still(0, 1, 2), -2);
        Check.due("still(2, 1, 1) without a LAW", y.still(2, 1, 1), -1);
    }
}
