/** Promise 39: trace. */
final class P39TraceTest {
    public static void main(String[] args) {
        NutsUp x = Check.nuts("g52;g34l;g93lo");
        int trace = 0;
        int[][] bodies = {{1}, {2, 1}, {3, 2, 1, 1}};
        for (int round = 0; round < 30; round++) {
            int g = round % 3;
            x.tell(g);
            for (int body : bodies[g]) {
                trace = 31 * trace + body;
            }
            x.sift(g);
            trace = 31 * trace + (g == 2 ? 5 : 4);
            Check.due("trace() of round " + round, x.trace(), trace);
        }
        Check.due("trace() again", x.trace(), trace);
        Check.box(x, "g11;g22");
        Check.due("trace() behind a BOX", x.trace(), trace);
        Check.end();
    }
}
