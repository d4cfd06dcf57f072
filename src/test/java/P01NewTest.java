/** Promise 1: a new object has no BOX, no LAWS; its SHEETS have nothing. */
final class P01NewTest {
    public static void main(String[] args) {
        NutsUp x = new NutsUp();
        int[] many = {0, 0, 0, 0, 0, -9};
        for (int what = 0; what < many.length; what++) {
            Check.due("many(" + what + ")", x.many(what), many[what]);
        }
        Check.due("lie()", x.lie(), -3);
        Check.due("at(0)", x.at(0), -1);
        Check.due("ofGrain(0, 0)", x.ofGrain(0, 0), -1);
        Check.due("use(0)", x.use(0), -1);
        Check.due("ofCause(0, 0, 0)", x.ofCause(0, 0, 0), -1);
        for (int k = 0; k < 4; k++) {
            Check.due("lose(" + k + ")", x.lose(k), 0);
        }
        Check.due("trace()", x.trace(), 0);
        Check.due("fault()", x.fault(), 0);
        Check.due("back(0)", x.back(0), 0);
        newOnesAreApart();
        Check.due("UNKNOWN", NutsUp.UNKNOWN, -1);
        Check.due("OUTSIDE", NutsUp.OUTSIDE, -2);
        Check.due("STATE", NutsUp.STATE, -3);
        Check.due("FULL", NutsUp.FULL, -4);
        Check.due("NONE", NutsUp.NONE, -9);
        Check.due("LOST", NutsUp.LOST, Long.MIN_VALUE);
        Check.end();
    }

    private static void newOnesAreApart() {
        NutsUp one = Check.nuts("g11;g22", "f11");
        one.tell(0);
        NutsUp other = new NutsUp();
        Check.due("many(0) of another one", other.many(0), 0);
        Check.due("many(2) of another one", other.many(2), 0);
        Check.due("trace() of another one", other.trace(), 0);
        Check.due("many(0) of the first", one.many(0), 2);
    }
}
