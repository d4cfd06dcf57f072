/** Promise 41: many. */
final class P41ManyTest {
    public static void main(String[] args) {
        NutsUp x = new NutsUp();
        counts(x, 0, 0, 0, 0, 0, -9);
        Check.law(x, "f11");
        counts(x, 0, 0, 1, 0, 0, 0);
        int lies = 1;
        for (int n = 2; n <= 7; n++) {
            lies *= n;
            Check.box(x, Check.repeated("g11", n, ";"));
            counts(x, n, lies, 1, 0, 0, 0);
        }
        Check.law(x, "n01");
        x.use(1);
        x.reading(6, 6);
        x.reading(0, 0);
        x.shake(2, 40);
        Check.row(x, 0, 0, 1, 2, 3);
        x.doing(0, 0, 1, 2);
        counts(x, 7, 5040, 2, 2, 42, 1);
        x.shake(1, 100);
        x.doing(0, 0, 1, 3);
        x.turn();
        x.spoon();
        x.next(0, 1);
        x.lay(3);
        counts(x, 7, 5040, 2, 2, 42, 1);
        x.back(1);
        counts(x, 7, 5040, 2, 1, 42, 1);
        Check.box(x, "g11;g22");
        counts(x, 2, 2, 2, 0, 0, 1);
        Check.due("many(MIN)", x.many(Integer.MIN_VALUE), -2);
        Check.due("many(MAX)", x.many(Integer.MAX_VALUE), -2);
        mostShakes();
        Check.due("many(-1)", x.many(-1), -2);
        Check.due("many(6)", x.many(6), -2);
        Check.end();
    }

    /** SHAKES of no change count, too; there is no end to them but that of the calls. */
    private static void mostShakes() {
        NutsUp x = Check.nuts("g11;g22", "n01");
        for (int s = 1; s <= 400; s++) {
            x.shake(1 + s % 3, 99);
        }
        Check.due("many(4) behind 400 times 99", x.many(4), 39600);
        Check.box(x, "g11;x");
        Check.due("many(4) behind a BOX that is not taken", x.many(4), 39600);
        Check.box(x, "g11;g22");
        Check.due("many(4) behind a BOX", x.many(4), 0);
    }

    private static void counts(NutsUp x, int... due) {
        for (int what = 0; what < 6; what++) {
            Check.due("many(" + what + ")", x.many(what), due[what]);
        }
    }
}
