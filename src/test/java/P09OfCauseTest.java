/** Promise 9: ofCause. */
final class P09OfCauseTest {
    public static void main(String[] args) {
        Check.due("ofCause(0, 0, 0) without a LAW", new NutsUp().ofCause(0, 0, 0), -1);
        NutsUp x = Check.nuts("g11;g22", "f01;h12;r23;t31;n42;a93", "a51");
        int[][] due = {{0, 0, 1}, {1, 1, 2}, {2, 2, 3}, {3, 3, 1}, {4, 4, 2}, {5, 9, 3}};
        for (int c = 0; c < 6; c++) {
            for (int what = 0; what < 3; what++) {
                Check.due("ofCause(0, " + c + ", " + what + ")", x.ofCause(0, c, what), due[c][what]);
            }
        }
        Check.due("ofCause(1, 0, 0)", x.ofCause(1, 0, 0), 5);
        Check.due("ofCause(1, 0, 1)", x.ofCause(1, 0, 1), 5);
        Check.due("ofCause(1, 0, 2)", x.ofCause(1, 0, 2), 1);
        Check.due("ofCause(1, 1, 0)", x.ofCause(1, 1, 0), -1);
        Check.due("ofCause(0, 6, 9)", x.ofCause(0, 6, 9), -1);
        Check.due("ofCause(0, -1, 0)", x.ofCause(0, -1, 0), -1);
        Check.due("ofCause(2, 0, 0)", x.ofCause(2, 0, 0), -1);
        Check.due("ofCause(-1, 0, 9)", x.ofCause(-1, 0, 9), -1);
        Check.due("ofCause(0, 0, -1)", x.ofCause(0, 0, -1), -2);
        Check.due("ofCause(0, 0, 3)", x.ofCause(0, 0, 3), -2);
        Check.end();
    }
}
