/** Promise 10: use. */
final class P10UseTest {
    public static void main(String[] args) {
        Check.due("use(0) without a LAW", new NutsUp().use(0), -1);
        NutsUp x = Check.nuts("g11;g22", "f11", "h11");
        Check.due("many(5)", x.many(5), 0);
        Check.due("next(1, 1) by LAW 0", x.next(1, 1), 0);
        Check.due("next(0, 1) by LAW 0", x.next(0, 1), 0);
        Check.due("use(1)", x.use(1), 0);
        Check.due("next(1, 1) by LAW 1", x.next(1, 1), 1);
        Check.due("next(0, 1) by LAW 1", x.next(0, 1), 1);
        Check.due("use(2)", x.use(2), -1);
        Check.due("use(-1)", x.use(-1), -1);
        Check.due("many(5) as it was", x.many(5), 1);
        Check.due("a new law", Check.law(x, "n01"), 2);
        Check.due("many(5) behind a new law", x.many(5), 1);
        Check.due("use(1) again", x.use(1), 1);
        Check.due("use(0)", x.use(0), 1);
        Check.due("next(1, 1) by LAW 0 again", x.next(1, 1), 0);
        firstIsInForce();
        Check.end();
    }

    /** LAW 0 is in force once there is one; a later one only as it is taken, a BOX changes nothing of that. */
    private static void firstIsInForce() {
        NutsUp x = new NutsUp();
        Check.due("many(5) of none", x.many(5), -9);
        for (int l = 0; l < 4; l++) {
            Check.due("use(" + l + ") ahead of it", x.use(l), -1);
            Check.law(x, "n" + l + "1");
            Check.due("many(5) behind LAW " + l, x.many(5), 0);
        }
        Check.due("use(3)", x.use(3), 0);
        Check.due("use(4)", x.use(4), -1);
        Check.due("use(MAX)", x.use(Integer.MAX_VALUE), -1);
        Check.box(x, "g11;g22");
        Check.due("many(5) behind a BOX", x.many(5), 3);
        Check.due("a fifth law", Check.law(x, "n01"), -4);
        Check.due("use(0)", x.use(0), 3);
    }
}
