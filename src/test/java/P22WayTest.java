/** Promise 22: way. */
final class P22WayTest {
    public static void main(String[] args) {
        byHand();
        byShakes();
        nowhere();
        refusals();
        Check.end();
    }

    private static void way(NutsUp x, int a, int b, int... steps) {
        String told = "way(" + a + ", " + b + ", ";
        Check.due(told + "-1)", x.way(a, b, -1), steps.length);
        for (int q = 0; q <= steps.length; q++) {
            Check.due(told + q + ")", x.way(a, b, q), q < steps.length ? steps[q] : -9);
        }
        Check.due(told + "MAX)", x.way(a, b, Integer.MAX_VALUE), -9);
    }

    /** A LAW that holds all: only TURNING over and the SPOON go elsewhere. */
    private static void byHand() {
        NutsUp x = Check.nuts("g11;g22;g33", "n01");
        way(x, 0, 0);
        way(x, 0, 5, 4);
        way(x, 0, 3, 5);
        way(x, 0, 4, 5, 5);
        way(x, 0, 1, 5, 4);
        way(x, 0, 2, 4, 5);
        way(x, 3, 0, 5, 5);
        Check.due("lie() as it was", x.lie(), 0);
        NutsUp two = Check.nuts("g11;g22", "n01");
        way(two, 0, 1, 4);
    }

    private static void byShakes() {
        NutsUp x = Check.nuts("g11;g22;g33", "f12");
        way(x, 5, 2, 2);
        way(x, 5, 0, 4);
        way(x, 1, 0, 2);
        way(x, 3, 0, 2, 2);
        way(x, 4, 5, 2, 4);
        NutsUp y = Check.nuts("g11;g22;g33", "f13");
        way(y, 5, 2, 3);
        NutsUp z = Check.nuts("g11;g22;g33", "f11");
        way(z, 5, 2, 1);
    }

    /** TURNING and the SPOON alone come to 8 of the 24 LIES. */
    private static void nowhere() {
        NutsUp x = Check.nuts("g11;g22;g33;g44", "n01");
        int there = 0;
        for (int b = 0; b < 24; b++) {
            int steps = x.way(0, b, -1);
            there += steps >= 0 ? 1 : 0;
            Check.due("way(0, " + b + ", 9)", x.way(0, b, 9), -9);
        }
        Check.due("how many LIES are come to", there, 8);
        Check.due("way(0, 1, -1)", x.way(0, 1, -1), -9);
        Check.due("way(0, 1, 0)", x.way(0, 1, 0), -9);
        way(x, 0, 9, 5);
        way(x, 0, 16, 5, 5);
        way(x, 0, 18, 4, 5, 4);
    }

    private static void refusals() {
        Check.due("way(0, 0, -1) without a BOX", new NutsUp().way(0, 0, -1), -1);
        NutsUp x = Check.nuts("g11;g22");
        Check.due("way(0, 1, -1) without a LAW", x.way(0, 1, -1), -3);
        Check.due("way(0, 1, -2) without a LAW", x.way(0, 1, -2), -1);
        Check.due("way(2, 0, -1)", x.way(2, 0, -1), -1);
        Check.due("way(0, 2, -1)", x.way(0, 2, -1), -1);
        Check.due("way(-1, 0, -1)", x.way(-1, 0, -1), -1);
        Check.due("way(0, -1, -1)", x.way(0, -1, -1), -1);
    }
}
