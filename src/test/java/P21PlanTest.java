/** Promise 21: plan. */
final class P21PlanTest {
    public static void main(String[] args) {
        mixing();
        parting();
        firstAsARow();
        refusals();
        Check.end();
    }

    private static void plan(NutsUp x, int aim, int k, int value, int... hards) {
        String told = "plan(" + aim + ", " + k + ", ";
        Check.due(told + "-1)", x.plan(aim, k, -1), value);
        Check.due(told + "-2)", x.plan(aim, k, -2), hards.length);
        for (int q = 0; q < 9; q++) {
            Check.due(told + q + ")", x.plan(aim, k, q), q < hards.length ? hards[q] : -9);
        }
    }

    private static void mixing() {
        NutsUp x = Check.nuts("g11;g22;g33", "f12");
        plan(x, 0, 9, 2);
        x.lay(5);
        plan(x, 0, 0, 2);
        plan(x, 0, 1, 3, 2);
        plan(x, 0, 9, 3, 2);
        Check.due("lie() as it was", x.lie(), 5);
        Check.due("many(4)", x.many(4), 0);
    }

    private static void parting() {
        NutsUp x = Check.nuts("g11;g22;g33", "f12");
        x.lay(5);
        plan(x, 1, 0, 0);
        plan(x, 1, 1, 2, 2);
        plan(x, 1, 2, 3, 2, 2);
        plan(x, 1, 9, 3, 2, 2);
        x.lay(0);
        plan(x, 1, 9, 3);
    }

    /** HARD 3 holds all; HARD 1 lifts one past another, HARD 2 the other way about. */
    private static void firstAsARow() {
        NutsUp x = Check.nuts("g12;g21;g33", "a93", "f11;h12");
        x.lay(5);
        plan(x, 0, 9, 2);
        x.use(1);
        Check.due("next(5, 1)", x.next(5, 1), 2);
        plan(x, 1, 9, 3, 1, 1);
        plan(x, 0, 9, 3, 1);
        NutsUp y = Check.nuts("g12;g21;g33", "n02;f11");
        y.lay(5);
        plan(y, 1, 2, 3, 1, 1);
        NutsUp z = Check.nuts("g12;g21;g33", "f13;f12");
        z.lay(5);
        plan(z, 1, 3, 3, 2, 2);
    }

    private static void refusals() {
        NutsUp x = new NutsUp();
        Check.due("plan(0, 1, 0) without a BOX, a LAW", x.plan(0, 1, 0), -3);
        Check.due("plan(2, 1, 9)", x.plan(2, 1, 9), -2);
        Check.due("plan(0, 1, 9)", x.plan(0, 1, 9), -1);
        Check.law(x, "f11");
        Check.due("plan(0, 1, 0) without a BOX", x.plan(0, 1, 0), -3);
        x = Check.nuts("g11;g22");
        Check.due("plan(0, 1, 0) without a LAW", x.plan(0, 1, 0), -3);
        Check.law(x, "f11");
        Check.due("plan(-1, 1, 0)", x.plan(-1, 1, 0), -2);
        Check.due("plan(2, 1, 0)", x.plan(2, 1, 0), -2);
        Check.due("plan(0, -1, -3)", x.plan(0, -1, -3), -2);
        Check.due("plan(0, 10, 0)", x.plan(0, 10, 0), -2);
        Check.due("plan(0, 9, -3)", x.plan(0, 9, -3), -1);
        Check.due("plan(0, 9, 9)", x.plan(0, 9, 9), -1);
        Check.due("plan(1, 9, 8)", x.plan(1, 9, 8), -9);
    }
}
