/** Promise 21: plan. */
final class P21PlanTest {
    public static void main(String[] args) {
        mixing();
        parting();
        firstAsARow();
        tried("g13l;g32l;g11;g23;g12", "t43;t21;t02;h01;f01", 17, 1);
        tried("g25l;g25lo;g96l;g72;g16", "f02;h02;f03;t03", 3, 0);
        nineAreNeeded();
        refusals();
        Check.end();
    }

    private static void plan(NutsUp x, int aim, int k, int value, int... hards) {
        String told = "plan(" + aim + ", " + k + ", ";
        Check.due(told + "-1)", x.plan(aim, k, -1), value);
        Check.due(told + "-2)", x.plan(aim, k, -2), hards.length);
        for (int q = 0; q < 9; q++) {
            Check.due(told + q + ")", x.plan(aim, k, q), q < hards.length ? hards[q] : -9);
        }
    }

    private static void mixing() {
        NutsUp x = Check.nuts("g11;g22;g33", "f12");
        plan(x, 0, 9, 2);
        x.lay(5);
        plan(x, 0, 0, 2);
        plan(x, 0, 1, 3, 2);
        plan(x, 0, 9, 3, 2);
        Check.due("lie() as it was", x.lie(), 5);
        Check.due("many(4)", x.many(4), 0);
    }

    private static void parting() {
        NutsUp x = Check.nuts("g11;g22;g33", "f12");
        x.lay(5);
        plan(x, 1, 0, 0);
        plan(x, 1, 1, 2, 2);
        plan(x, 1, 2, 3, 2, 2);
        plan(x, 1, 9, 3, 2, 2);
        x.lay(0);
        plan(x, 1, 9, 3);
    }

    /** HARD 3 holds all; HARD 1 lifts one past another, HARD 2 the other way about. */
    private static void firstAsARow() {
        NutsUp x = Check.nuts("g12;g21;g33", "a93", "f11;h12");
        x.lay(5);
        plan(x, 0, 9, 2);
        x.use(1);
        Check.due("next(5, 1)", x.next(5, 1), 2);
        plan(x, 1, 9, 3, 1, 1);
        plan(x, 0, 9, 3, 1);
        NutsUp y = Check.nuts("g12;g21;g33", "n02;f11");
        y.lay(5);
        plan(y, 1, 2, 3, 1, 1);
        NutsUp z = Check.nuts("g12;g21;g33", "f13;f12");
        z.lay(5);
        plan(z, 1, 3, 3, 2, 2);
    }

    /** All doings one by one, the shorter ones and those that are first as a row ahead, at each k from 0 to 9. */
    private static void tried(String box, String law, int from, int aim) {
        int[][] nexts = {Tables.nexts(box, law, 1), Tables.nexts(box, law, 2), Tables.nexts(box, law, 3)};
        int[] values = Tables.measures(box, aim);
        NutsUp x = Check.nuts(box, law);
        x.lay(from);
        int most = values[from];
        int[] best = {};
        int doings = 1;
        for (int k = 0; k <= 9; k++) {
            for (int d = 0; d < doings; d++) {
                int[] hards = new int[k];
                int rest = d;
                for (int q = k - 1; q >= 0; q--) {
                    hards[q] = rest % 3 + 1;
                    rest /= 3;
                }
                int lie = from;
                for (int hard : hards) {
                    lie = nexts[hard - 1][lie];
                }
                if (values[lie] > most) {
                    most = values[lie];
                    best = hards;
                }
            }
            doings *= 3;
            plan(x, aim, k, most, best);
        }
    }

    /** With k 8 it is less: the ninth SHAKE (q 8) is taken, too. */
    private static void nineAreNeeded() {
        NutsUp x = Check.nuts("g13l;g32l;g11;g23;g12", "t43;t21;t02;h01;f01");
        x.lay(17);
        Check.due("plan(1, 8, -1)", x.plan(1, 8, -1), 6);
        Check.due("plan(1, 9, -1)", x.plan(1, 9, -1), 7);
        Check.due("plan(1, 9, -2)", x.plan(1, 9, -2), 9);
        int last = x.plan(1, 9, 8);
        Check.due("plan(1, 9, 8)", last >= 1 && last <= 3 ? 1 : 0, 1);
        Check.row(x, 0, 0, 0, 0, 0, 0, 0, 0, 0, 0, 0);
        for (int q = 0; q < 9; q++) {
            x.put(0, q, x.plan(1, 9, q));
        }
        x.doing(0, 0, 0, 9);
        Check.due("PARTS behind that doing", x.mix(x.lie(), 1), 7);
    }

    private static void refusals() {
        NutsUp x = new NutsUp();
        Check.due("plan(0, 1, 0) without a BOX, a LAW", x.plan(0, 1, 0), -3);
        Check.due("plan(2, 1, 9)", x.plan(2, 1, 9), -2);
        Check.due("plan(0, 1, 9)", x.plan(0, 1, 9), -1);
        Check.law(x, "f11");
        Check.due("plan(0, 1, 0) without a BOX", x.plan(0, 1, 0), -3);
        x = Check.nuts("g11;g22");
        Check.due("plan(0, 1, 0) without a LAW", x.plan(0, 1, 0), -3);
        Check.law(x, "f11");
        Check.due("plan(-1, 1, 0)", x.plan(-1, 1, 0), -2);
        Check.due("plan(2, 1, 0)", x.plan(2, 1, 0), -2);
        Check.due("plan(0, -1, -3)", x.plan(0, -1, -3), -2);
        Check.due("plan(0, 10, 0)", x.plan(0, 10, 0), -2);
        Check.due("plan(0, 9, -3)", x.plan(0, 9, -3), -1);
        Check.due("plan(0, 9, 9)", x.plan(0, 9, 9), -1);
        Check.due("plan(1, 9, 8)", x.plan(1, 9, 8), -9);
    }
}
