/** Promise 36: tell. */
final class P36TellTest {
    public static void main(String[] args) {
        Check.due("tell(0) without a BOX", new NutsUp().tell(0), -1);
        told(0, 5, 1);
        told(1, 103, 2, 1);
        told(2, 118, 3, 2, 1, 1);
        NutsUp x = Check.nuts("g52;g34l;g93lo");
        Check.due("tell(3)", x.tell(3), -1);
        Check.due("tell(-1)", x.tell(-1), -1);
        Check.due("trace() as it was", x.trace(), 0);
        NutsUp edges = Check.nuts("g11;g99;g11l;g99l;g11lo;g99lo;g51");
        int[] due = {1, 9, 101, 109, 102, 118, 5};
        for (int g = 0; g < 7; g++) {
            Check.due("tell(" + g + ") of SIZE 1 or 9", edges.tell(g), due[g]);
        }
        Check.due("tell(7)", edges.tell(7), -1);
        Check.due("tell(MIN)", edges.tell(Integer.MIN_VALUE), -1);
        Check.due("tell(MAX)", edges.tell(Integer.MAX_VALUE), -1);
        Check.end();
    }

    private static void told(int g, int due, int... bodies) {
        NutsUp x = Check.nuts("g52;g34l;g93lo");
        Check.due("tell(" + g + ")", x.tell(g), due);
        int trace = 0;
        for (int body : bodies) {
            trace = 31 * trace + body;
        }
        Check.due("trace() of tell(" + g + ")", x.trace(), trace);
    }
}
