/** Promise 40: fault. */
final class P40FaultTest {
    public static void main(String[] args) {
        NutsUp x = new NutsUp();
        Check.due("fault() ahead of any", x.fault(), 0);
        x.put(0, 0, 0);
        Check.due("fault() of NULL", x.fault(), 1);
        callsThatNameNone(x, 1);
        x.sheet(0, 0, -1);
        Check.due("fault() of SIZE", x.fault(), 4);
        callsThatNameNone(x, 4);
        x.sheet(0, 0, 9);
        Check.due("fault() of none", x.fault(), 0);
        x.put(0, 9, 0);
        Check.due("fault() of INDEX", x.fault(), 3);
        callsThatNameNone(x, 3);
        x.cell(0, 0, 1);
        Check.due("fault() of CAST", x.fault(), 2);
        callsThatNameNone(x, 2);
        refused(x);
        Check.end();
    }

    private static void callsThatNameNone(NutsUp x, int fault) {
        x.ofGrain(9, 9);
        x.at(9);
        x.lie();
        x.lay(9);
        x.of(9, 9);
        x.ofCause(9, 9, 9);
        x.use(9);
        x.cause(9, 9, 9, 9);
        x.shake(9, 9);
        x.turn();
        x.spoon();
        x.next(9, 9);
        x.still(9, 9, 9);
        x.soon(9, 9, 9);
        x.boss(9, 9, 9);
        x.mix(9, 9);
        x.plan(9, 9, 9);
        x.way(9, 9, 9);
        x.come(9, 9, 9);
        x.bare(9);
        x.odds(9, 9, 9, 9);
        x.reading(9, 9);
        x.back(9);
        x.fits(9, 9);
        x.bears(9, 9);
        x.lose(3);
        x.tell(9);
        x.sift(9);
        x.trace();
        x.many(9);
        Check.due("fault() behind calls that name none", x.fault(), fault);
    }

    /** Each call that names FAULTS, refused behind one that came to a FAULT. */
    private static void refused(NutsUp x) {
        for (int call = 0; call < 9; call++) {
            x.put(1, 0, 0);
            Check.due("fault() ahead", x.fault(), 1);
            switch (call) {
                case 0 -> x.box(9, 0, 0, 0);
                case 1 -> x.law(9, 0, 0, 0);
                case 2 -> x.doing(9, 0, 0, 0);
                case 3 -> x.which(9, 0, 0, 0, 0, 0);
                case 4 -> x.sheet(9, 0, 0);
                case 5 -> x.put(9, 0, 0);
                case 6 -> x.cell(9, 0, 0);
                case 7 -> x.copy(9, 0, 0, 0, 0);
                default -> x.as(9, 0);
            }
            Check.due("fault() of refused call " + call, x.fault(), 0);
        }
    }
}
