/** Promise 25: odds. */
final class P25OddsTest {
    public static void main(String[] args) {
        NutsUp x = Check.nuts("g11;g22;g33", "f12");
        for (int g = 0; g < 3; g++) {
            share(x, g, 0, 2, 1, 3);
            share(x, g, 99, 1, 1, 3);
            share(x, g, 1, 2, g == 2 ? 1 : 0, 1);
            share(x, g, 99, 3, g == 2 ? 1 : 0, 1);
        }
        partly();
        counted();
        seven();
        countedLong("g58lo;g57;g48l;g41l", "f33;r12;h33;t03", 3, 3);
        countedLong("g27lo;g42lo;g23;g19;g21lo", "a13;r02;f02;t11;f03;h01", 4, 3);
        refusals(x);
        Check.end();
    }

    private static void share(NutsUp x, int g, int k, int hard, long upper, long lower) {
        String told = "odds(" + g + ", " + k + ", " + hard + ", ";
        Check.due(told + "0)", x.odds(g, k, hard, 0), upper);
        Check.due(told + "1)", x.odds(g, k, hard, 1), lower);
    }

    /** Only 0 and 2 CHANGE: 2 rises past 0; all else stays. */
    private static void partly() {
        NutsUp x = Check.nuts("g11;g22;g33", "f21");
        share(x, 0, 1, 1, 1, 6);
        share(x, 1, 1, 1, 1, 3);
        share(x, 2, 1, 1, 1, 2);
        share(x, 0, 50, 1, 1, 6);
        share(x, 1, 50, 1, 1, 3);
        share(x, 2, 50, 1, 1, 2);
    }

    /** Shares that are counted LIE by LIE, among them some that are neither whole nor one part. */
    private static void counted() {
        NutsUp x = Check.nuts("g11;g22;g33;g44", "f21");
        int[] onTop = new int[4];
        for (int lie = 0; lie < 24; lie++) {
            onTop[x.of(x.next(lie, 1), 3)]++;
        }
        // Only the pair on top counts: 2 rises past 0, 3 past 0 and 1, each in 2 LIES.
        int[] due = {2, 4, 8, 10};
        for (int g = 0; g < 4; g++) {
            Check.due("how often " + g + " is on top", onTop[g], due[g]);
        }
        share(x, 0, 1, 1, 1, 12);
        share(x, 1, 1, 1, 1, 6);
        share(x, 2, 1, 1, 1, 3);
        share(x, 3, 1, 1, 5, 12);
    }

    /** Rounds in which it matters whether there are 97, 98 or 99 SHAKES; least terms by trying all divisors. */
    private static void countedLong(String box, String law, int g, int hard) {
        int[] nexts = Tables.nexts(box, law, hard);
        int[] tops = Tables.tops(box);
        NutsUp x = Check.nuts(box, law);
        for (int k : new int[] {0, 1, 2, 3, 63, 64, 65, 97, 98, 99}) {
            int onTop = Tables.howMany(Tables.behind(nexts, k), lie -> tops[lie] == g ? 1 : 0);
            int by = nexts.length;
            while (onTop % by != 0 || nexts.length % by != 0) {
                by--;
            }
            share(x, g, k, hard, onTop / by, nexts.length / by);
        }
    }

    private static void seven() {
        NutsUp x = Check.nuts("g11;g21;g31;g41;g51;g61;g71", "f11");
        share(x, 6, 0, 1, 1, 7);
        share(x, 6, 99, 1, 1, 1);
        share(x, 0, 99, 1, 0, 1);
        share(x, 0, 0, 3, 1, 7);
    }

    private static void refusals(NutsUp x) {
        long lost = Check.LOST;
        Check.due("odds(3, 0, 1, 0)", x.odds(3, 0, 1, 0), lost);
        Check.due("odds(-1, 0, 1, 0)", x.odds(-1, 0, 1, 0), lost);
        Check.due("odds(0, -1, 1, 0)", x.odds(0, -1, 1, 0), lost);
        Check.due("odds(0, 100, 1, 0)", x.odds(0, 100, 1, 0), lost);
        Check.due("odds(0, 0, 0, 0)", x.odds(0, 0, 0, 0), lost);
        Check.due("odds(0, 0, 4, 0)", x.odds(0, 0, 4, 0), lost);
        Check.due("odds(0, 0, 1, -1)", x.odds(0, 0, 1, -1), lost);
        Check.due("odds(0, 0, 1, 2)", x.odds(0, 0, 1, 2), lost);
        Check.due("odds(0, 0, 1, 0) without a LAW", Check.nuts("g11;g22").odds(0, 0, 1, 0), lost);
        NutsUp y = new NutsUp();
        Check.law(y, "f11");
        Check.due("odds(0, 0, 1, 0) without a BOX", y.odds(0, 0, 1, 0), lost);
    }
}
