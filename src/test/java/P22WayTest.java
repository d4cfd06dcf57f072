/** Promise 22: way. */
final class P22WayTest {
    public static void main(String[] args) {
        byHand();
        byShakes();
        nowhere();
        tried("g12;g31;g11l;g23lo", "t22;f11;h02;r13");
        tried("g23;g32;g12lo;g21", "n12;f22;r02;r23");
        farOff();
        refusals();
        Check.end();
    }

    private static void way(NutsUp x, int a, int b, int... steps) {
        String told = "way(" + a + ", " + b + ", ";
        Check.due(told + "-1)", x.way(a, b, -1), steps.length);
        for (int q = 0; q <= steps.length; q++) {
            Check.due(told + q + ")", x.way(a, b, q), q < steps.length ? steps[q] : -9);
        }
        Check.due(told + "MAX)", x.way(a, b, Integer.MAX_VALUE), -9);
    }

    /** A LAW that holds all: only TURNING over and the SPOON go elsewhere. */
    private static void byHand() {
        NutsUp x = Check.nuts("g11;g22;g33", "n01");
        way(x, 0, 0);
        way(x, 0, 5, 4);
        way(x, 0, 3, 5);
        way(x, 0, 4, 5, 5);
        way(x, 0, 1, 5, 4);
        way(x, 0, 2, 4, 5);
        way(x, 3, 0, 5, 5);
        Check.due("lie() as it was", x.lie(), 0);
        NutsUp two = Check.nuts("g11;g22", "n01");
        way(two, 0, 1, 4);
    }

    private static void byShakes() {
        NutsUp x = Check.nuts("g11;g22;g33", "f12");
        way(x, 5, 2, 2);
        way(x, 5, 0, 4);
        way(x, 1, 0, 2);
        way(x, 3, 0, 2, 2);
        way(x, 4, 5, 2, 4);
        NutsUp y = Check.nuts("g11;g22;g33", "f13");
        way(y, 5, 2, 3);
        NutsUp z = Check.nuts("g11;g22;g33", "f11");
        way(z, 5, 2, 1);
    }

    /** TURNING and the SPOON alone come to 8 of the 24 LIES. */
    private static void nowhere() {
        NutsUp x = Check.nuts("g11;g22;g33;g44", "n01");
        int there = 0;
        for (int b = 0; b < 24; b++) {
            int steps = x.way(0, b, -1);
            there += steps >= 0 ? 1 : 0;
            Check.due("way(0, " + b + ", 9)", x.way(0, b, 9), -9);
        }
        Check.due("how many LIES are come to", there, 8);
        Check.due("way(0, 1, -1)", x.way(0, 1, -1), -9);
        Check.due("way(0, 1, 0)", x.way(0, 1, 0), -9);
        // What was come to by another LAW is forgotten.
        Check.law(x, "f01");
        x.use(1);
        for (int b = 0; b < 24; b++) {
            Check.due("way(3, " + b + ", -1) by f01", x.way(3, b, -1) >= 0 ? 1 : 0, 1);
        }
        x.use(0);
        for (int b = 0; b < 24; b++) {
            there -= x.way(0, b, -1) >= 0 ? 1 : 0;
        }
        Check.due("how many are come to, less those by n01 again", there, 0);
        way(x, 0, 9, 5);
        way(x, 0, 16, 5, 5);
        way(x, 0, 18, 4, 5, 4);
    }

    /** From each LIE to each: the rows of doings grow by one, those that are first as a row ahead. */
    private static void tried(String box, String law) {
        int[][] moves = {Tables.nexts(box, law, 1), Tables.nexts(box, law, 2), Tables.nexts(box, law, 3),
            Tables.turns(box), Tables.spoons(box)};
        for (int a = 0; a < 24; a++) {
            String[] ways = new String[24];
            java.util.List<Integer> come = new java.util.ArrayList<>(java.util.List.of(a));
            ways[a] = "";
            for (int c = 0; c < come.size(); c++) {
                for (int by = 1; by <= 5; by++) {
                    int to = moves[by - 1][come.get(c)];
                    if (ways[to] == null) {
                        ways[to] = ways[come.get(c)] + by;
                        come.add(to);
                    }
                }
            }
            NutsUp x = Check.nuts(box, law);
            for (int b = 0; b < 24; b++) {
                int[] steps = ways[b] == null ? null : ways[b].chars().map(step -> step - '0').toArray();
                if (steps == null) {
                    Check.due("way(" + a + ", " + b + ", -1), there is none", x.way(a, b, -1), -9);
                } else {
                    way(x, a, b, steps);
                }
            }
        }
    }

    /** 33 doings of seven GRAINS, done one by one. */
    private static void farOff() {
        NutsUp x = Check.nuts("g23;g32;g12lo;g12lo;g21;g12;g23", "n12;f22;r02;r23");
        int longest = 0;
        int a = 1390;
        int b = 0;
        for (int lie = 0; lie < 300; lie++) {
            int steps = x.way(a, lie, -1);
            b = steps > longest ? lie : b;
            longest = Math.max(longest, steps);
        }
        Check.due("the longest is longer than any doing of plan()", longest > 20 ? 1 : 0, 1);
        x = Check.nuts("g23;g32;g12lo;g12lo;g21;g12;g23", "n12;f22;r02;r23");
        x.lay(a);
        for (int q = 0; q < longest; q++) {
            int by = x.way(a, b, q);
            Check.due("step " + q, by >= 1 && by <= 5 ? 1 : 0, 1);
            if (by == 4) {
                x.turn();
            } else if (by == 5) {
                x.spoon();
            } else {
                x.shake(by, 1);
            }
            Check.due("from there one step fewer", x.way(x.lie(), b, -1), longest - q - 1);
        }
        Check.due("where it comes to", x.lie(), b);
        Check.due("behind the last", x.way(a, b, longest), -9);
    }

    private static void refusals() {
        Check.due("way(0, 0, -1) without a BOX", new NutsUp().way(0, 0, -1), -1);
        NutsUp x = Check.nuts("g11;g22");
        Check.due("way(0, 1, -1) without a LAW", x.way(0, 1, -1), -3);
        Check.due("way(0, 1, -2) without a LAW", x.way(0, 1, -2), -1);
        Check.due("way(2, 0, -1)", x.way(2, 0, -1), -1);
        Check.due("way(0, 2, -1)", x.way(0, 2, -1), -1);
        Check.due("way(-1, 0, -1)", x.way(-1, 0, -1), -1);
        Check.due("way(0, -1, -1)", x.way(0, -1, -1), -1);
    }
}
