/** Promise 39: trace. */
final class P39TraceTest {
    public static void main(String[] args) {
        NutsUp x = Check.nuts("g52;g34l;g93lo");
        int trace = 0;
        int[][] bodies = {{1}, {2, 1}, {3, 2, 1, 1}};
        for (int round = 0; round < 30; round++) {
            int g = round % 3;
            x.tell(g);
            for (int body : bodies[g]) {
                trace = 31 * trace + body;
            }
            x.sift(g);
            trace = 31 * trace + (g == 2 ? 5 : 4);
            Check.due("trace() of round " + round, x.trace(), trace);
        }
        Check.due("trace() again", x.trace(), trace);
        Check.box(x, "g11;g22");
        Check.due("trace() behind a BOX", x.trace(), trace);
        wraps();
        Check.end();
    }

    /** Where the next one is more than an int has: it goes on from the least, and below 0 up again. */
    private static void wraps() {
        NutsUp x = Check.nuts("g11;g22lo");
        long trace = 0;
        int below = 0;
        for (int round = 0; round < 200; round++) {
            int g = round % 7 == 0 ? 1 : 0;
            x.sift(g);
            trace = 31 * trace + (g == 1 ? 5 : 4);
            // What an int that wraps has of it: the rest by two to the 32nd, from the least int on.
            trace = Math.floorMod(trace + 2147483648L, 4294967296L) - 2147483648L;
            Check.due("trace() of round " + round, x.trace(), trace);
            below += trace < 0 ? 1 : 0;
        }
        Check.due("it was below 0 and above", below > 50 && below < 150 ? 1 : 0, 1);
    }
}
