/** Promise 32: lose. */
final class P32LoseTest {
    public static void main(String[] args) {
        NutsUp x = new NutsUp();
        Check.due("lose(0) of nothing", x.lose(0), 0);
        Check.due("lose(3) of nothing", x.lose(3), 0);
        Check.due("lose(-1)", x.lose(-1), -1);
        Check.due("lose(4)", x.lose(4), -1);
        Check.row(x, 0, 1, 4, 5);
        Check.row(x, 1, 1, 6);
        x.put(0, 9, 1);
        Check.due("lose(0)", x.lose(0), 1);
        Check.due("fault() stays", x.fault(), 3);
        Check.due("lose(0) again", x.lose(0), 0);
        Check.dueFault(x, "put(0, 0, 1)", x.put(0, 0, 1), -11, 1);
        Check.dueFault(x, "cell(0, 0, 1)", x.cell(0, 0, 1), Check.LOST, 1);
        Check.due("cell(1, 0, 1)", x.cell(1, 0, 1), 6);
        for (int k = 0; k < 4; k++) {
            x.sheet(k, 0, k == 0 ? 0 : 60);
            Check.due("lose(" + k + ")", x.lose(k), 1);
            Check.due("lose(" + k + ") once more", x.lose(k), 0);
        }
        Check.due("lose(MIN)", x.lose(Integer.MIN_VALUE), -1);
        Check.due("lose(MAX)", x.lose(Integer.MAX_VALUE), -1);
        Check.end();
    }
}
