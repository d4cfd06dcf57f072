/** Promise 37: sift. */
final class P37SiftTest {
    public static void main(String[] args) {
        Check.due("sift(0) without a BOX", new NutsUp().sift(0), -1);
        NutsUp x = Check.nuts("g52lo;g34l;g93;g11lo;g11l");
        x.lay(100);
        int[] due = {50, 1, 2, 50, 4};
        int[] bodies = {5, 4, 4, 5, 4};
        int trace = 0;
        for (int g = 0; g < 5; g++) {
            Check.due("sift(" + g + ")", x.sift(g), due[g]);
            trace = 31 * trace + bodies[g];
            Check.due("trace()", x.trace(), trace);
        }
        Check.due("sift(5)", x.sift(5), -1);
        Check.due("sift(-1)", x.sift(-1), -1);
        Check.due("trace() as it was", x.trace(), trace);
        NutsUp seven = Check.nuts("g11;g11l;g11;g11l;g11;g11l;g11");
        seven.turn();
        for (int g = 0; g < 7; g++) {
            Check.due("sift(" + g + ") of seven", seven.sift(g), g);
        }
        Check.due("sift(7)", seven.sift(7), -1);
        Check.due("sift(MIN)", seven.sift(Integer.MIN_VALUE), -1);
        Check.due("sift(MAX)", seven.sift(Integer.MAX_VALUE), -1);
        Check.end();
    }
}
