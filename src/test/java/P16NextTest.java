/** Promise 16: next. */
final class P16NextTest {
    public static void main(String[] args) {
        NutsUp x = new NutsUp();
        Check.law(x, "f11");
        Check.due("next(0, 1) without a BOX", x.next(0, 1), -1);
        x = Check.nuts("g11;g22;g33", "f12", "h11");
        int[] falling = {0, 0, 0, 2, 0, 2};
        int[] sinking = {3, 5, 3, 5, 5, 5};
        for (int lie = 0; lie < 6; lie++) {
            Check.due("next(" + lie + ", 1)", x.next(lie, 1), lie);
            Check.due("next(" + lie + ", 2)", x.next(lie, 2), falling[lie]);
            Check.due("next(" + lie + ", 3)", x.next(lie, 3), falling[lie]);
        }
        x.use(1);
        for (int lie = 0; lie < 6; lie++) {
            Check.due("next(" + lie + ", 1) by LAW 1", x.next(lie, 1), sinking[lie]);
        }
        Check.due("lie() as it was", x.lie(), 0);
        Check.due("many(4)", x.many(4), 0);
        Check.due("next(-1, 0)", x.next(-1, 0), -1);
        Check.due("next(6, 1)", x.next(6, 1), -1);
        Check.due("next(0, 0)", x.next(0, 0), -2);
        Check.due("next(5, 4)", x.next(5, 4), -2);
        NutsUp y = Check.nuts("g11;g22");
        Check.due("next(0, 1) without a LAW", y.next(0, 1), -3);
        Check.due("next(0, 4) without a LAW", y.next(0, 4), -2);
        Check.end();
    }
}
