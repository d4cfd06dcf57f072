/** Promise 7: of. */
final class P07OfTest {
    public static void main(String[] args) {
        Check.due("of(0, 0) without a BOX", new NutsUp().of(0, 0), -1);
        NutsUp x = Check.nuts("g11;g22;g33;g44");
        int lie = 0;
        for (int a = 0; a < 4; a++) {
            for (int b = 0; b < 4; b++) {
                for (int c = 0; c < 4; c++) {
                    int d = 6 - a - b - c;
                    if (a != b && a != c && b != c) {
                        row(x, lie++, a, b, c, d);
                    }
                }
            }
        }
        Check.due("many(1)", x.many(1), lie);
        Check.due("of(24, 0)", x.of(24, 0), -1);
        Check.due("of(-1, 0)", x.of(-1, 0), -1);
        Check.due("of(0, 4)", x.of(0, 4), -1);
        Check.due("of(0, -1)", x.of(0, -1), -1);
        Check.due("lie() as it was", x.lie(), 0);
        seven();
        Check.end();
    }

    private static void row(NutsUp x, int lie, int... grains) {
        for (int p = 0; p < grains.length; p++) {
            Check.due("of(" + lie + ", " + p + ")", x.of(lie, p), grains[p]);
        }
    }

    private static void seven() {
        NutsUp x = Check.nuts("g11;g22;g33;g44;g55;g66;g77");
        row(x, 0, 0, 1, 2, 3, 4, 5, 6);
        row(x, 1, 0, 1, 2, 3, 4, 6, 5);
        row(x, 720, 1, 0, 2, 3, 4, 5, 6);
        row(x, 5039, 6, 5, 4, 3, 2, 1, 0);
        row(x, 3 * 720 + 2 * 120 + 4 * 24 + 6 + 2, 3, 2, 6, 1, 4, 0, 5);
    }
}
