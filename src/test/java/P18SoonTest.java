/** Promise 18: soon. */
final class P18SoonTest {
    public static void main(String[] args) {
        NutsUp x = Check.nuts("g11;g22;g33", "f12", "h11");
        int[][] due = {{-9, -9, 0}, {-9, 0, 1}, {-9, -9, 0}, {0, -9, 1}, {-9, 0, 1}, {0, -9, 1}};
        for (int lie = 0; lie < 6; lie++) {
            for (int g = 0; g < 3; g++) {
                Check.due("soon(" + g + ", " + lie + ", 2)", x.soon(g, lie, 2), due[lie][g]);
                int now = due[lie][g] == 0 ? 0 : -9;
                Check.due("soon(" + g + ", " + lie + ", 1)", x.soon(g, lie, 1), now);
            }
        }
        x.use(1);
        Check.due("soon(0, 0, 1) by LAW 1", x.soon(0, 0, 1), 1);
        Check.due("soon(1, 0, 1) by LAW 1", x.soon(1, 0, 1), -9);
        alike();
        late();
        atOnce();
        refusals(x);
        Check.end();
    }

    /** By f01 seven alike go round in seven SHAKES: each is on top once. */
    private static void alike() {
        NutsUp x = Check.nuts(Check.repeated("g11", 7, ";"), "f01");
        int[] due = {3, 4, 2, 5, 1, 6, 0};
        for (int g = 0; g < 7; g++) {
            Check.due("soon(" + g + ", 0, 1) of alike", x.soon(g, 0, 1), due[g]);
        }
    }

    /** One that is on top only behind 21 SHAKES, of seven GRAINS. */
    private static void late() {
        int lie = 358;
        for (int g = 0; g < 7; g++) {
            NutsUp x = Check.nuts("g11;g34lo;g17;g44;g47l;g39lo;g56lo", "h03;t43;f13;a01;r01;f02");
            x.lay(lie);
            int due = -9;
            // Way and round are much shorter than 200 SHAKES.
            for (int s = 0; s < 200 && due < 0; s++) {
                due = x.at(6) == g ? s : -9;
                x.shake(3, 1);
            }
            Check.due("soon(" + g + ", 358, 3)", x.soon(g, lie, 3), due);
        }
        NutsUp x = Check.nuts("g11;g34lo;g17;g44;g47l;g39lo;g56lo", "h03;t43;f13;a01;r01;f02");
        int latest = -9;
        for (int g = 0; g < 7; g++) {
            latest = Math.max(latest, x.soon(g, lie, 3));
        }
        Check.due("the latest one", latest, 21);
    }

    /** 0 is the least: it is on top already, by whatever HARD. */
    private static void atOnce() {
        NutsUp x = Check.nuts("g11;g11;g11;g11", "f01");
        for (int lie = 0; lie < 24; lie++) {
            for (int hard = 1; hard <= 3; hard++) {
                Check.due("soon of the one on top", x.soon(x.of(lie, 3), lie, hard), 0);
            }
        }
    }

    private static void refusals(NutsUp x) {
        Check.due("soon(3, 0, 0)", x.soon(3, 0, 0), -1);
        Check.due("soon(-1, 0, 1)", x.soon(-1, 0, 1), -1);
        Check.due("soon(0, 6, 0)", x.soon(0, 6, 0), -1);
        Check.due("soon(0, -1, 1)", x.soon(0, -1, 1), -1);
        Check.due("soon(0, 0, 0)", x.soon(0, 0, 0), -2);
        Check.due("soon(0, 0, 4)", x.soon(0, 0, 4), -2);
        NutsUp y = Check.nuts("g11;g22");
        Check.due("soon(1, 0, 1) without a LAW", y.soon(1, 0, 1), -3);
        Check.due("soon(1, 0, 4) without a LAW", y.soon(1, 0, 4), -2);
        Check.due("soon(2, 0, 1) without a LAW", y.soon(2, 0, 1), -1);
    }
}
