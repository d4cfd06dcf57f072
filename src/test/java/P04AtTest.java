/** Promise 4: at. */
final class P04AtTest {
    public static void main(String[] args) {
        Check.due("at(0) without a BOX", new NutsUp().at(0), -1);
        NutsUp x = Check.nuts("g11;g22;g33");
        int[][] rows = {{0, 1, 2}, {0, 2, 1}, {1, 0, 2}, {1, 2, 0}, {2, 0, 1}, {2, 1, 0}};
        for (int lie = 0; lie < 6; lie++) {
            x.lay(lie);
            for (int p = 0; p < 3; p++) {
                Check.due("at(" + p + ") in LIE " + lie, x.at(p), rows[lie][p]);
            }
        }
        Check.due("at(-1)", x.at(-1), -1);
        Check.due("at(3)", x.at(3), -1);
        Check.due("at(MIN)", x.at(Integer.MIN_VALUE), -1);
        Check.end();
    }
}
