/** Promise 34: cell. */
final class P34CellTest {
    public static void main(String[] args) {
        NutsUp x = new NutsUp();
        Check.row(x, 0, 0, 5, -6);
        Check.row(x, 1, 1, 7);
        long lost = Check.LOST;
        Check.dueFault(x, "cell(0, 0, 0)", x.cell(0, 0, 0), 5, 0);
        Check.dueFault(x, "cell(0, 1, 0)", x.cell(0, 1, 0), -6, 0);
        Check.dueFault(x, "cell(1, 0, 1)", x.cell(1, 0, 1), 7, 0);
        Check.dueFault(x, "cell(0, 2, 0)", x.cell(0, 2, 0), lost, 3);
        Check.dueFault(x, "cell(0, -1, 0)", x.cell(0, -1, 0), lost, 3);
        Check.dueFault(x, "cell(0, -1, 1)", x.cell(0, -1, 1), lost, 2);
        Check.dueFault(x, "cell(1, 9, 0)", x.cell(1, 9, 0), lost, 2);
        Check.dueFault(x, "cell(1, 0, 2)", x.cell(1, 0, 2), lost, 2);
        Check.dueFault(x, "cell(2, 9, 0)", x.cell(2, 9, 0), lost, 1);
        Check.dueFault(x, "cell(2, 0, 3)", x.cell(2, 0, 3), lost, 0);
        x.put(2, 0, 0);
        Check.dueFault(x, "cell(0, 0, -1)", x.cell(0, 0, -1), lost, 0);
        x.put(2, 0, 0);
        Check.dueFault(x, "cell(4, 0, 0)", x.cell(4, 0, 0), lost, 0);
        x.put(2, 0, 0);
        Check.dueFault(x, "cell(-1, 0, 0)", x.cell(-1, 0, 0), lost, 0);
        Check.end();
    }
}
