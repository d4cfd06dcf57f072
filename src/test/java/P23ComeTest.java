/** Promise 23: come. */
final class P23ComeTest {
    public static void main(String[] args) {
        NutsUp x = Check.nuts("g11;g22;g33", "f12");
        int[][] due = {{1, 1, 1, 1, 1, 1}, {4, 0, 2, 0, 0, 0}, {6, 0, 0, 0, 0, 0}, {6, 0, 0, 0, 0, 0}};
        int[] shakes = {0, 1, 2, 99};
        for (int s = 0; s < 4; s++) {
            for (int lie = 0; lie < 6; lie++) {
                int k = shakes[s];
                Check.due("come(" + lie + ", " + k + ", 2)", x.come(lie, k, 2), due[s][lie]);
                Check.due("come(" + lie + ", " + k + ", 3)", x.come(lie, k, 3), due[s][lie]);
                Check.due("come(" + lie + ", " + k + ", 1)", x.come(lie, k, 1), 1);
            }
        }
        Check.due("come(6, 0, 0)", x.come(6, 0, 0), -1);
        Check.due("come(-1, 0, 1)", x.come(-1, 0, 1), -1);
        Check.due("come(0, -1, 1)", x.come(0, -1, 1), -2);
        Check.due("come(0, 100, 1)", x.come(0, 100, 1), -2);
        Check.due("come(0, 0, 0)", x.come(0, 0, 0), -2);
        Check.due("come(0, 0, 4)", x.come(0, 0, 4), -2);
        NutsUp y = Check.nuts("g11;g22");
        Check.due("come(0, 0, 1) without a LAW", y.come(0, 0, 1), -3);
        Check.due("come(0, 100, 1) without a LAW", y.come(0, 100, 1), -2);
        Check.due("come(2, 0, 1) without a LAW", y.come(2, 0, 1), -1);
        intoARound();
        seven();
        Check.end();
    }

    /** By f01 with 1 and 2 alike all LIES come to 1, 2, 0 and 2, 1, 0, which go round. */
    private static void intoARound() {
        NutsUp x = Check.nuts("g31;g21;g21", "f01");
        for (int k = 5; k < 99; k++) {
            Check.due("come together", x.come(3, k, 1) + x.come(5, k, 1), 6);
            Check.due("come turn about", x.come(3, k, 1), x.come(5, k + 1, 1));
        }
    }

    private static void seven() {
        NutsUp x = Check.nuts("g11;g21;g31;g41;g51;g61;g71", "f11");
        Check.due("come(0, 99, 1)", x.come(0, 99, 1), 5040);
        Check.due("come(5039, 1, 1)", x.come(5039, 1, 1), 0);
        Check.due("come(5039, 0, 1)", x.come(5039, 0, 1), 1);
        NutsUp round = Check.nuts(Check.repeated("g11", 7, ";"), "f01");
        Check.due("come(1234, 98, 1) of alike", round.come(1234, 98, 1), 1);
    }
}
