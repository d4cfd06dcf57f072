/** Promise 18: soon. */
final class P18SoonTest {
    public static void main(String[] args) {
        NutsUp x = Check.nuts("g11;g22;g33", "f12", "h11");
        int[][] due = {{-9, -9, 0}, {-9, 0, 1}, {-9, -9, 0}, {0, -9, 1}, {-9, 0, 1}, {0, -9, 1}};
        for (int lie = 0; lie < 6; lie++) {
            for (int g = 0; g < 3; g++) {
                Check.due("soon(" + g + ", " + lie + ", 2)", x.soon(g, lie, 2), due[lie][g]);
                int now = due[lie][g] == 0 ? 0 : -9;
                Check.due("soon(" + g + ", " + lie + ", 1)", x.soon(g, lie, 1), now);
            }
        }
        x.use(1);
        Check.due("soon(0, 0, 1) by LAW 1", x.soon(0, 0, 1), 1);
        Check.due("soon(1, 0, 1) by LAW 1", x.soon(1, 0, 1), -9);
        alike();
        refusals(x);
        Check.end();
    }

    /** By f01 seven alike go round in seven SHAKES: each is on top once. */
    private static void alike() {
        NutsUp x = Check.nuts(Check.repeated("g11", 7, ";"), "f01");
        int[] due = {3, 4, 2, 5, 1, 6, 0};
        for (int g = 0; g < 7; g++) {
            Check.due("soon(" + g + ", 0, 1) of alike", x.soon(g, 0, 1), due[g]);
        }
    }

    private static void refusals(NutsUp x) {
        Check.due("soon(3, 0, 0)", x.soon(3, 0, 0), -1);
        Check.due("soon(-1, 0, 1)", x.soon(-1, 0, 1), -1);
        Check.due("soon(0, 6, 0)", x.soon(0, 6, 0), -1);
        Check.due("soon(0, -1, 1)", x.soon(0, -1, 1), -1);
        Check.due("soon(0, 0, 0)", x.soon(0, 0, 0), -2);
        Check.due("soon(0, 0, 4)", x.soon(0, 0, 4), -2);
        NutsUp y = Check.nuts("g11;g22");
        Check.due("soon(1, 0, 1) without a LAW", y.soon(1, 0, 1), -3);
        Check.due("soon(1, 0, 4) without a LAW", y.soon(1, 0, 4), -2);
        Check.due("soon(2, 0, 1) without a LAW", y.soon(2, 0, 1), -1);
    }
}
