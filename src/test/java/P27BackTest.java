/** Promise 27: back. */
final class P27BackTest {
    public static void main(String[] args) {
        NutsUp none = new NutsUp();
        Check.due("back(0) of a new object", none.back(0), 0);
        Check.due("back(1) of a new object", none.back(1), -2);
        NutsUp x = Check.nuts("g11;g22;g33", "n01");
        x.reading(0, 0);
        x.reading(1, 1);
        x.reading(0, 2);
        Check.due("fits(0, 1)", x.fits(0, 1), 0);
        Check.due("back(-1)", x.back(-1), -2);
        Check.due("back(4)", x.back(4), -2);
        Check.due("back(0)", x.back(0), 3);
        Check.due("back(1)", x.back(1), 2);
        Check.due("fits(0, 1) without the last one", x.fits(0, 1), Integer.MAX_VALUE);
        Check.due("fits(1, 1) without the last one", x.fits(1, 1), 0);
        Check.due("reading(2, 2)", x.reading(2, 2), 2);
        Check.due("fits(0, 1) with another one", x.fits(0, 1), Integer.MAX_VALUE);
        Check.due("back(3)", x.back(3), 0);
        Check.due("back(1) of none", x.back(1), -2);
        Check.due("many(3)", x.many(3), 0);
        Check.due("back(MIN)", x.back(Integer.MIN_VALUE), -2);
        Check.due("back(MAX)", x.back(Integer.MAX_VALUE), -2);
        ofAll();
        Check.end();
    }

    /** Eight there are at most; all of them may go at once. */
    private static void ofAll() {
        for (int k = 0; k <= 8; k++) {
            NutsUp x = Check.nuts("g11;g22", "n01");
            for (int r = 0; r < 8; r++) {
                x.reading(1, r < 4 ? 1 : 0);
            }
            Check.due("back(9) of eight", x.back(9), -2);
            Check.due("back(" + k + ") of eight", x.back(k), 8 - k);
            Check.due("many(3)", x.many(3), 8 - k);
            // Only without the last four it fits.
            Check.due("fits(0, 1)", x.fits(0, 1), k < 4 ? 0 : Integer.MAX_VALUE);
            Check.due("the next one", x.reading(0, 0), k == 0 ? -4 : 8 - k);
        }
    }
}
