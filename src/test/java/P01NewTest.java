/** Promise 1: a new object has no BOX, no LAWS; its SHEETS have nothing. */
final class P01NewTest {
    public static void main(String[] args) {
        NutsUp x = new NutsUp();
        int[] many = {0, 0, 0, 0, 0, -9};
        for (int what = 0; what < many.length; what++) {
            Check.due("many(" + what + ")", x.many(what), many[what]);
        }
        Check.due("lie()", x.lie(), -3);
        Check.due("at(0)", x.at(0), -1);
        Check.due("ofGrain(0, 0)", x.ofGrain(0, 0), -1);
        Check.due("use(0)", x.use(0), -1);
        Check.due("ofCause(0, 0, 0)", x.ofCause(0, 0, 0), -1);
        for (int k = 0; k < 4; k++) {
            Check.due("lose(" + k + ")", x.lose(k), 0);
        }
        Check.due("trace()", x.trace(), 0);
        Check.due("fault()", x.fault(), 0);
        Check.due("back(0)", x.back(0), 0);
        nothingIsThere();
        newOnesAreApart();
        Check.due("UNKNOWN", NutsUp.UNKNOWN, -1);
        Check.due("OUTSIDE", NutsUp.OUTSIDE, -2);
        Check.due("STATE", NutsUp.STATE, -3);
        Check.due("FULL", NutsUp.FULL, -4);
        Check.due("NONE", NutsUp.NONE, -9);
        Check.due("LOST", NutsUp.LOST, Long.MIN_VALUE);
        Check.end();
    }

    /** Each call that needs a BOX, a LAW, a READING, a row: on an object of which nothing has been told. */
    private static void nothingIsThere() {
        NutsUp x = new NutsUp();
        Check.due("lay(0)", x.lay(0), -1);
        Check.due("of(0, 0)", x.of(0, 0), -1);
        Check.due("cause(0, 1, 0, 1)", x.cause(0, 1, 0, 1), -1);
        Check.due("shake(1, 0)", x.shake(1, 0), -3);
        Check.due("turn()", x.turn(), -3);
        Check.due("spoon()", x.spoon(), -3);
        Check.due("next(0, 1)", x.next(0, 1), -1);
        Check.due("still(0, 1, 0)", x.still(0, 1, 0), -1);
        Check.due("soon(0, 0, 1)", x.soon(0, 0, 1), -1);
        Check.due("boss(0, 0, 1)", x.boss(0, 0, 1), -1);
        Check.due("mix(0, 0)", x.mix(0, 0), -1);
        Check.due("plan(0, 0, -1)", x.plan(0, 0, -1), -3);
        Check.due("way(0, 0, -1)", x.way(0, 0, -1), -1);
        Check.due("come(0, 0, 1)", x.come(0, 0, 1), -1);
        Check.due("bare(1)", x.bare(1), -3);
        Check.due("odds(0, 0, 1, 0)", x.odds(0, 0, 1, 0), Check.LOST);
        Check.due("reading(0, 0)", x.reading(0, 0), -1);
        Check.due("fits(0, 1)", x.fits(0, 1), -1);
        Check.due("bears(1, 0)", x.bears(1, 0), -3);
        Check.due("tell(0)", x.tell(0), -1);
        Check.due("sift(0)", x.sift(0), -1);
        Check.dueFault(x, "as(0, 0)", x.as(0, 0), -1, 0);
        for (int k = 0; k < 4; k++) {
            for (int sort = 0; sort < 3; sort++) {
                Check.dueFault(x, "box of nothing", x.box(k, sort, 0, 0), -11, 1);
                Check.dueFault(x, "law of nothing", x.law(k, sort, 0, 0), -11, 1);
                Check.dueFault(x, "doing of nothing", x.doing(k, sort, 0, 0), -11, 1);
                Check.dueFault(x, "cell of nothing", x.cell(k, 0, sort), Check.LOST, 1);
            }
            Check.dueFault(x, "put to nothing", x.put(k, 0, 0), -11, 1);
            Check.dueFault(x, "copy of nothing", x.copy(k, 0, 3 - k, 0, 0), -11, 1);
            Check.dueFault(x, "which, no LIES", x.which(0, 0, k, 0, 0, 0), -1, 0);
        }
    }

    private static void newOnesAreApart() {
        NutsUp one = Check.nuts("g11;g22", "f11");
        one.tell(0);
        NutsUp other = new NutsUp();
        Check.due("many(0) of another one", other.many(0), 0);
        Check.due("many(2) of another one", other.many(2), 0);
        Check.due("trace() of another one", other.trace(), 0);
        Check.due("many(0) of the first", one.many(0), 2);
    }
}
