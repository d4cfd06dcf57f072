/** Promise 3: ofGrain. */
final class P03OfGrainTest {
    private static final int[][] DUE = {
        {0, 9, 1, 9, 1, 0},
        {1, 1, 5, 0, 5, 1},
        {2, 4, 8, 3, 10, 2},
        {0, 2, 9, 2, 9, 3},
    };

    public static void main(String[] args) {
        NutsUp x = Check.nuts("g91;g15l;g48lo;g29");
        for (int g = 0; g < 4; g++) {
            for (int what = 0; what < 6; what++) {
                Check.due("ofGrain(" + g + ", " + what + ")", x.ofGrain(g, what), DUE[g][what]);
            }
        }
        x.lay(23);
        for (int g = 0; g < 4; g++) {
            Check.due("ofGrain(" + g + ", 5) in LIE 23", x.ofGrain(g, 5), 3 - g);
        }
        x.lay(3);
        int[] places = {0, 3, 1, 2};
        for (int g = 0; g < 4; g++) {
            Check.due("ofGrain(" + g + ", 5) in LIE 3", x.ofGrain(g, 5), places[g]);
        }
        edgesOfBulkAndHeft();
        Check.due("ofGrain(0, -1)", x.ofGrain(0, -1), -2);
        Check.due("ofGrain(3, 6)", x.ofGrain(3, 6), -2);
        Check.due("ofGrain(-1, 6)", x.ofGrain(-1, 6), -1);
        Check.due("ofGrain(4, 0)", x.ofGrain(4, 0), -1);
        Check.due("ofGrain(MAX, 0)", x.ofGrain(Integer.MAX_VALUE, 0), -1);
        Check.end();
    }

    /** BULK 0 is the least, HEFT 11 the greatest. */
    private static void edgesOfBulkAndHeft() {
        NutsUp x = Check.nuts("g11;g99;g11l;g99l;g11lo;g99lo");
        int[] bulks = {1, 9, 0, 8, 0, 8};
        int[] hefts = {1, 9, 1, 9, 3, 11};
        for (int g = 0; g < 6; g++) {
            Check.due("BULK of " + g, x.ofGrain(g, 3), bulks[g]);
            Check.due("HEFT of " + g, x.ofGrain(g, 4), hefts[g]);
        }
    }
}
