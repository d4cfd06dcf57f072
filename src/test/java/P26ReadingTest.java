/** Promise 26: reading. */
final class P26ReadingTest {
    public static void main(String[] args) {
        Check.due("reading(0, 0) without a BOX", new NutsUp().reading(0, 0), -1);
        NutsUp x = Check.nuts("g11;g22;g33");
        Check.due("reading(3, 0)", x.reading(3, 0), -1);
        Check.due("reading(-1, 0)", x.reading(-1, 0), -1);
        Check.due("reading(0, 3)", x.reading(0, 3), -1);
        Check.due("reading(0, -1)", x.reading(0, -1), -1);
        Check.due("many(3)", x.many(3), 0);
        for (int r = 0; r < 8; r++) {
            Check.due("reading " + r, x.reading(r % 3, 2), r);
            Check.due("many(3)", x.many(3), r + 1);
        }
        Check.due("a ninth reading", x.reading(0, 0), -4);
        Check.due("a ninth reading of no GRAIN", x.reading(3, 0), -1);
        Check.due("many(3)", x.many(3), 8);
        Check.due("back(1)", x.back(1), 7);
        Check.due("reading once more", x.reading(2, 0), 7);
        Check.end();
    }
}
