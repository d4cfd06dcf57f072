/** Promise 23: come. */
final class P23ComeTest {
    public static void main(String[] args) {
        NutsUp x = Check.nuts("g11;g22;g33", "f12");
        int[][] due = {{1, 1, 1, 1, 1, 1}, {4, 0, 2, 0, 0, 0}, {6, 0, 0, 0, 0, 0}, {6, 0, 0, 0, 0, 0}};
        int[] shakes = {0, 1, 2, 99};
        for (int s = 0; s < 4; s++) {
            for (int lie = 0; lie < 6; lie++) {
                int k = shakes[s];
                Check.due("come(" + lie + ", " + k + ", 2)", x.come(lie, k, 2), due[s][lie]);
                Check.due("come(" + lie + ", " + k + ", 3)", x.come(lie, k, 3), due[s][lie]);
                Check.due("come(" + lie + ", " + k + ", 1)", x.come(lie, k, 1), 1);
            }
        }
        Check.due("come(6, 0, 0)", x.come(6, 0, 0), -1);
        Check.due("come(-1, 0, 1)", x.come(-1, 0, 1), -1);
        Check.due("come(0, -1, 1)", x.come(0, -1, 1), -2);
        Check.due("come(0, 100, 1)", x.come(0, 100, 1), -2);
        Check.due("come(0, 0, 0)", x.come(0, 0, 0), -2);
        Check.due("come(0, 0, 4)", x.come(0, 0, 4), -2);
        NutsUp y = Check.nuts("g11;g22");
        Check.due("come(0, 0, 1) without a LAW", y.come(0, 0, 1), -3);
        Check.due("come(0, 100, 1) without a LAW", y.come(0, 100, 1), -2);
        Check.due("come(2, 0, 1) without a LAW", y.come(2, 0, 1), -1);
        intoARound();
        seven();
        counted("g31;g12;g21lo;g22l;g32", "h02;n31;f01;n41", 87, 3);
        counted("g95l;g41;g24l;g32l;g98lo", "h32;f13;f43;f52;n13", 70, 2);
        Check.end();
    }

    /** By f01 with 1 and 2 alike all LIES come to 1, 2, 0 and 2, 1, 0, which go round. */
    private static void intoARound() {
        NutsUp x = Check.nuts("g31;g21;g21", "f01");
        for (int k = 5; k < 99; k++) {
            Check.due("come together", x.come(3, k, 1) + x.come(5, k, 1), 6);
            Check.due("come turn about", x.come(3, k, 1), x.come(5, k + 1, 1));
        }
    }

    /** Rounds in which it matters whether there are 97, 98 or 99 SHAKES. */
    private static void counted(String box, String law, int lie, int hard) {
        int[] nexts = Tables.nexts(box, law, hard);
        NutsUp x = Check.nuts(box, law);
        for (int k : new int[] {0, 1, 2, 3, 63, 64, 65, 97, 98, 99}) {
            int due = Tables.howMany(Tables.behind(nexts, k), to -> to == lie ? 1 : 0);
            Check.due("come(" + lie + ", " + k + ", " + hard + ") of " + box, x.come(lie, k, hard), due);
        }
        Check.due("98 is not 97", x.come(lie, 98, hard) == x.come(lie, 97, hard) ? 1 : 0, 0);
        Check.due("99 is not 98", x.come(lie, 99, hard) == x.come(lie, 98, hard) ? 1 : 0, 0);
    }

    private static void seven() {
        NutsUp x = Check.nuts("g11;g21;g31;g41;g51;g61;g71", "f11");
        Check.due("come(0, 99, 1)", x.come(0, 99, 1), 5040);
        Check.due("come(5039, 1, 1)", x.come(5039, 1, 1), 0);
        Check.due("come(5039, 0, 1)", x.come(5039, 0, 1), 1);
        NutsUp round = Check.nuts(Check.repeated("g11", 7, ";"), "f01");
        Check.due("come(1234, 98, 1) of alike", round.come(1234, 98, 1), 1);
    }
}
