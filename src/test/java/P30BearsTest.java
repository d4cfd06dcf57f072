/** Promise 30: bears. */
final class P30BearsTest {
    public static void main(String[] args) {
        NutsUp x = Check.nuts("g11;g22;g33", "f12");
        // MIX by LIES: 2, 3, 3, 3, 3, 2; by f from 3 to 2 to 0.
        bears(x, 3, 2, 3, 1);
        bears(x, 2, 2, 3, 0);
        bears(x, 0, 2, 3, -1);
        bears(x, 5, 2, 3, -1);
        bears(x, 5, 2, 2, -9);
        bears(x, 3, 2, 2, -9);
        bears(x, 3, 2, 0, -9);
        bears(x, 3, 1, 3, -9);
        bears(x, 3, 3, 4, -1);
        bears(x, 3, 3, 99, -1);
        Check.due("bears(0, 1)", x.bears(0, 1), -2);
        Check.due("bears(4, 1)", x.bears(4, 1), -2);
        Check.due("bears(1, -1)", x.bears(1, -1), -2);
        Check.due("bears(1, 100)", x.bears(1, 100), -2);
        Check.due("lie() as it was", x.lie(), 3);
        Check.due("many(4)", x.many(4), 0);
        round();
        NutsUp y = new NutsUp();
        Check.due("bears(1, 1) without a BOX, a LAW", y.bears(1, 1), -3);
        Check.due("bears(4, 1) without a BOX, a LAW", y.bears(4, 1), -2);
        Check.law(y, "f11");
        Check.due("bears(1, 1) without a BOX", y.bears(1, 1), -3);
        Check.due("bears(1, 1) without a LAW", Check.nuts("g11;g22").bears(1, 1), -3);
        Check.end();
    }

    private static void bears(NutsUp x, int from, int hard, int m, int due) {
        x.lay(from);
        Check.due("bears(" + hard + ", " + m + ") from LIE " + from, x.bears(hard, m), due);
    }

    /** BULKS are alike by turns of SIZE and LONG, so all goes round in seven SHAKES; MIX goes with it. */
    private static void round() {
        NutsUp x = Check.nuts("g11;g21l;g11;g21l;g11;g21l;g11", "f01");
        bears(x, 0, 1, 6, 0);
        bears(x, 0, 1, 0, -9);
        bears(x, 0, 1, 7, -1);
        int least = 99;
        int first = -1;
        for (int s = 0; s < 14; s++) {
            x.lay(0);
            x.shake(1, s);
            int mix = x.mix(x.lie(), 0);
            first = mix < least ? s : first;
            least = Math.min(least, mix);
        }
        bears(x, 0, 1, least + 1, first - 1);
        bears(x, 0, 1, least, -9);
    }
}
