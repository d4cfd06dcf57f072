/** Promise 29: which. */
final class P29WhichTest {
    public static void main(String[] args) {
        byLaws();
        edges();
        refusalsAndFaults();
        Check.end();
    }

    private static void byLaws() {
        NutsUp x = Check.nuts("g11;g22;g33");
        Check.row(x, 0, 0, 1, 3, 3, 2);
        Check.dueFault(x, "which without a LAW", x.which(5, 5, 0, 0, 0, 1), 0, 0);
        String[] laws = {"f11", "n01", "h11", "f13"};
        for (String law : laws) {
            Check.law(x, law);
        }
        Check.due("which 5 to 2 by 1", x.which(5, 2, 0, 0, 0, 1), 1);
        Check.due("which 5 to 5 by 1", x.which(5, 5, 0, 0, 0, 1), 14);
        Check.due("which 5 to 2 by 3", x.which(5, 2, 0, 0, 1, 1), 9);
        Check.due("which 5 to 5 by none", x.which(5, 5, 0, 0, 4, 0), 15);
        Check.due("which 5 to 0 by none", x.which(5, 0, 0, 0, 0, 0), 0);
        Check.due("which 5 to 0 by 1, 3", x.which(5, 0, 0, 0, 0, 2), 1);
        Check.due("which 5 to 2 by 1, 3", x.which(5, 2, 0, 0, 0, 2), 8);
        Check.due("which 5 to 0 by 1, 3, 3, 2", x.which(5, 0, 0, 0, 0, 4), 9);
        Check.due("which 0 to 5 by 3, 2", x.which(0, 5, 0, 0, 2, 2), 4);
        Check.due("lie() as it was", x.lie(), 0);
        Check.due("many(5) as it was", x.many(5), 0);
        Check.due("many(4)", x.many(4), 0);
        int[] sixty = new int[60];
        java.util.Arrays.fill(sixty, 2);
        Check.row(x, 2, 2, sixty);
        Check.due("which 5 to 0 by 60", x.which(5, 0, 2, 2, 0, 60), 1);
    }

    /** None of the cells, one at the end, all 60; a row of none. */
    private static void edges() {
        NutsUp x = Check.nuts("g11;g11", "f03", "f01", "n01", "f02");
        int[] sixty = new int[60];
        java.util.Arrays.fill(sixty, 1);
        sixty[0] = 2;
        sixty[59] = 3;
        for (int sort = 0; sort < 3; sort++) {
            Check.row(x, sort, sort, sixty);
            // LAW 0 changes by the 3, LAW 1 by all, LAW 2 by none, LAW 3 by the 2 and the 3.
            Check.due("all 60 come back", x.which(0, 0, sort, sort, 0, 60), 14);
            Check.due("all 60 go over", x.which(0, 1, sort, sort, 0, 60), 1);
            Check.due("the last goes over", x.which(1, 0, sort, sort, 59, 1), 11);
            Check.due("the first goes over", x.which(1, 0, sort, sort, 0, 1), 10);
            Check.due("all but the last go over", x.which(0, 1, sort, sort, 0, 59), 10);
            Check.dueFault(x, "none behind the last", x.which(1, 1, sort, sort, 60, 0), 15, 0);
            Check.dueFault(x, "one behind the last", x.which(1, 1, sort, sort, 60, 1), -13, 3);
            Check.dueFault(x, "none, one beyond", x.which(1, 1, sort, sort, 61, 0), -13, 3);
        }
        x.sheet(3, 1, 0);
        Check.dueFault(x, "a row of none", x.which(0, 0, 3, 1, 0, 0), 15, 0);
        Check.dueFault(x, "a row of none, to another LIE", x.which(0, 1, 3, 1, 0, 0), 0, 0);
        Check.dueFault(x, "a row of none, from 1 on", x.which(0, 0, 3, 1, 1, 0), -13, 3);
    }

    private static void refusalsAndFaults() {
        NutsUp x = Check.nuts("g11;g22", "f11");
        Check.row(x, 0, 1, 1, 2, 3, 0, 4);
        Check.dueFault(x, "which of nothing", x.which(0, 0, 1, 1, 0, 1), -11, 1);
        Check.dueFault(x, "which, SHEET 4", x.which(0, 0, 4, 3, 0, 1), -1, 0);
        Check.dueFault(x, "which, SHEET -1", x.which(0, 0, -1, 1, 0, 1), -1, 0);
        Check.dueFault(x, "which, LIE 2", x.which(2, 0, 0, 3, 0, 1), -1, 0);
        Check.dueFault(x, "which, LIE -1", x.which(-1, 0, 0, 1, 0, 1), -1, 0);
        Check.dueFault(x, "which to LIE 2", x.which(0, 2, 0, 1, 0, 1), -1, 0);
        Check.dueFault(x, "which to LIE -1", x.which(0, -1, 0, 0, 0, 1), -1, 0);
        Check.dueFault(x, "which, SORT 3", x.which(0, 0, 0, 3, 0, -1), -2, 0);
        Check.dueFault(x, "which, SORT -1", x.which(0, 0, 1, -1, 0, 1), -2, 0);
        Check.dueFault(x, "which, another SORT", x.which(0, 0, 0, 0, 0, -1), -12, 2);
        Check.dueFault(x, "which of nothing, too few", x.which(0, 0, 1, 1, 0, -1), -11, 1);
        Check.dueFault(x, "which, n below 0", x.which(0, 0, 0, 1, -1, -1), -14, 4);
        Check.dueFault(x, "which, i below 0", x.which(0, 0, 0, 1, -1, 0), -13, 3);
        Check.dueFault(x, "which, i beyond", x.which(0, 0, 0, 1, 6, 0), -13, 3);
        Check.dueFault(x, "which, n beyond", x.which(0, 0, 0, 1, 3, 3), -13, 3);
        Check.dueFault(x, "which, HARD 0", x.which(0, 0, 0, 1, 2, 2), -2, 0);
        Check.dueFault(x, "which, HARD 4", x.which(0, 0, 0, 1, 4, 1), -2, 0);
        Check.dueFault(x, "which", x.which(1, 0, 0, 1, 0, 3), 1, 0);
        NutsUp none = new NutsUp();
        Check.row(none, 0, 0, 1);
        Check.dueFault(none, "which without a BOX", none.which(0, 0, 0, 0, 0, 1), -1, 0);
    }
}
