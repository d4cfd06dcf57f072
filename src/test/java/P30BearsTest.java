/** Promise 30: bears. */
final class P30BearsTest {
    public static void main(String[] args) {
        NutsUp x = Check.nuts("g11;g22;g33", "f12");
        // MIX by LIES: 2, 3, 3, 3, 3, 2; by f from 3 to 2 to 0.
        bears(x, 3, 2, 3, 1);
        bears(x, 2, 2, 3, 0);
        bears(x, 0, 2, 3, -1);
        bears(x, 5, 2, 3, -1);
        bears(x, 5, 2, 2, -9);
        bears(x, 3, 2, 2, -9);
        bears(x, 3, 2, 0, -9);
        bears(x, 3, 1, 3, -9);
        bears(x, 3, 3, 4, -1);
        bears(x, 3, 3, 99, -1);
        Check.due("bears(0, 1)", x.bears(0, 1), -2);
        Check.due("bears(4, 1)", x.bears(4, 1), -2);
        Check.due("bears(1, -1)", x.bears(1, -1), -2);
        Check.due("bears(1, 100)", x.bears(1, 100), -2);
        Check.due("lie() as it was", x.lie(), 3);
        Check.due("many(4)", x.many(4), 0);
        round();
        long74();
        edgesOfM();
        NutsUp y = new NutsUp();
        Check.due("bears(1, 1) without a BOX, a LAW", y.bears(1, 1), -3);
        Check.due("bears(4, 1) without a BOX, a LAW", y.bears(4, 1), -2);
        Check.law(y, "f11");
        Check.due("bears(1, 1) without a BOX", y.bears(1, 1), -3);
        Check.due("bears(1, 1) without a LAW", Check.nuts("g11;g22").bears(1, 1), -3);
        Check.end();
    }

    /** It bears 74 SHAKES, much more than there are GRAINS: by each SHAKE gone one by one. */
    private static void long74() {
        NutsUp x = Check.nuts("g86lo;g64lo;g57l;g32;g14lo;g53l;g49l", "h11;f11;f12;n11");
        x.lay(1964);
        Check.due("bears(2, 10)", x.bears(2, 10), 74);
        for (int s = 0; s <= 74; s++) {
            Check.due("MIX behind " + s, x.mix(x.lie(), 0) >= 10 ? 1 : 0, 1);
            Check.due("bears(2, 10) behind " + s, x.bears(2, 10), 74 - s);
            x.shake(2, 1);
        }
        Check.due("MIX behind 75", x.mix(x.lie(), 0) < 10 ? 1 : 0, 1);
        Check.due("bears(2, 10) behind 75", x.bears(2, 10), -1);
    }

    /** MIX is 48 at most: m 49 .. 99 is never borne, m 0 always. */
    private static void edgesOfM() {
        NutsUp x = Check.nuts("g91;g11;g91;g11;g91;g11;g91", "n01");
        Check.due("bears(1, 0)", x.bears(1, 0), -9);
        Check.due("bears(1, 48)", x.bears(1, 48), -9);
        Check.due("bears(1, 49)", x.bears(1, 49), -1);
        Check.due("bears(1, 99)", x.bears(1, 99), -1);
        NutsUp alike = Check.nuts("g55;g55", "f01");
        Check.due("bears(1, 0) of MIX 0", alike.bears(1, 0), -9);
        Check.due("bears(1, 1) of MIX 0", alike.bears(1, 1), -1);
    }

    private static void bears(NutsUp x, int from, int hard, int m, int due) {
        x.lay(from);
        Check.due("bears(" + hard + ", " + m + ") from LIE " + from, x.bears(hard, m), due);
    }

    /** BULKS are alike by turns of SIZE and LONG, so all goes round in seven SHAKES; MIX goes with it. */
    private static void round() {
        NutsUp x = Check.nuts("g11;g21l;g11;g21l;g11;g21l;g11", "f01");
        bears(x, 0, 1, 6, 0);
        bears(x, 0, 1, 0, -9);
        bears(x, 0, 1, 7, -1);
        int least = 99;
        int first = -1;
        for (int s = 0; s < 14; s++) {
            x.lay(0);
            x.shake(1, s);
            int mix = x.mix(x.lie(), 0);
            first = mix < least ? s : first;
            least = Math.min(least, mix);
        }
        bears(x, 0, 1, least + 1, first - 1);
        bears(x, 0, 1, least, -9);
    }
}
