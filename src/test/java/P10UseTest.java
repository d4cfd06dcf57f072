/** Promise 10: use. */
final class P10UseTest {
    public static void main(String[] args) {
        Check.due("use(0) without a LAW", new NutsUp().use(0), -1);
        NutsUp x = Check.nuts("g11;g22", "f11", "h11");
        Check.due("many(5)", x.many(5), 0);
        Check.due("next(1, 1) by LAW 0", x.next(1, 1), 0);
        Check.due("next(0, 1) by LAW 0", x.next(0, 1), 0);
        Check.due("use(1)", x.use(1), 0);
        Check.due("next(1, 1) by LAW 1", x.next(1, 1), 1);
        Check.due("next(0, 1) by LAW 1", x.next(0, 1), 1);
        Check.due("use(2)", x.use(2), -1);
        Check.due("use(-1)", x.use(-1), -1);
        Check.due("many(5) as it was", x.many(5), 1);
        Check.due("a new law", Check.law(x, "n01"), 2);
        Check.due("many(5) behind a new law", x.many(5), 1);
        Check.due("use(1) again", x.use(1), 1);
        Check.due("use(0)", x.use(0), 1);
        Check.due("next(1, 1) by LAW 0 again", x.next(1, 1), 0);
        Check.end();
    }
}
