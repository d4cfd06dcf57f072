/** Promise 12: shake. */
final class P12ShakeTest {
    public static void main(String[] args) {
        byPairs();
        sevenGrains();
        byHard();
        refusals();
        Check.end();
    }

    private static void shaken(NutsUp x, int from, int n, int changes, int to) {
        x.lay(from);
        Check.due("shake(1, " + n + ") from LIE " + from, x.shake(1, n), changes);
        Check.due("lie()", x.lie(), to);
    }

    private static void byPairs() {
        NutsUp x = Check.nuts("g11;g22;g33", "f11");
        shaken(x, 5, 1, 2, 2);
        shaken(x, 5, 2, 3, 0);
        shaken(x, 5, 99, 3, 0);
        shaken(x, 4, 1, 2, 0);
        shaken(x, 3, 1, 1, 2);
        shaken(x, 2, 1, 1, 0);
        shaken(x, 1, 1, 1, 0);
        shaken(x, 0, 1, 0, 0);
        shaken(x, 5, 0, 0, 5);
        Check.due("many(4)", x.many(4), 1 + 2 + 99 + 1 + 1 + 1 + 1 + 1);
        NutsUp y = Check.nuts("g11;g11", "f01");
        Check.due("shake(3, 99) where it never rests", y.shake(3, 99), 99);
        Check.due("lie()", y.lie(), 1);
        Check.due("shake(3, 98)", y.shake(3, 98), 98);
        Check.due("lie()", y.lie(), 1);
        Check.due("shake(3, 0)", y.shake(3, 0), 0);
        Check.due("lie()", y.lie(), 1);
        Check.due("many(4)", y.many(4), 197);
    }

    /** All GRAINS alike: by f01 all pairs change, first from 0, 2, 4, then from 1, 3, 5. */
    private static void sevenGrains() {
        NutsUp x = Check.nuts(Check.repeated("g11", 7, ";"), "f01");
        Check.due("shake(1, 1)", x.shake(1, 1), 6);
        int[] row = {1, 3, 0, 5, 2, 6, 4};
        for (int p = 0; p < 7; p++) {
            Check.due("at(" + p + ")", x.at(p), row[p]);
        }
        Check.due("shake(1, 6)", x.shake(1, 6), 36);
        Check.due("lie()", x.lie(), 0);
    }

    private static void byHard() {
        NutsUp x = Check.nuts("g22;g11", "f12");
        Check.due("shake(1, 9)", x.shake(1, 9), 0);
        Check.due("many(4)", x.many(4), 9);
        Check.due("shake(2, 9)", x.shake(2, 9), 1);
        Check.due("lie()", x.lie(), 1);
        x.lay(0);
        Check.due("shake(3, 9)", x.shake(3, 9), 1);
        Check.due("many(4)", x.many(4), 27);
    }

    private static void refusals() {
        NutsUp x = new NutsUp();
        Check.due("shake(1, 1) without a BOX, a LAW", x.shake(1, 1), -3);
        Check.due("shake(0, 1) without a BOX, a LAW", x.shake(0, 1), -2);
        Check.law(x, "f11");
        Check.due("shake(1, 1) without a BOX", x.shake(1, 1), -3);
        x = Check.nuts("g22;g11");
        Check.due("shake(1, 0) without a LAW", x.shake(1, 0), -3);
        Check.law(x, "f11");
        Check.due("shake(0, 1)", x.shake(0, 1), -2);
        Check.due("shake(4, 1)", x.shake(4, 1), -2);
        Check.due("shake(1, -1)", x.shake(1, -1), -2);
        Check.due("shake(1, 100)", x.shake(1, 100), -2);
        Check.due("lie() as it was", x.lie(), 0);
        Check.due("many(4)", x.many(4), 0);
        Check.due("shake(1, 99)", x.shake(1, 99), 1);
    }
}
