/** Promise 36: tell. */
final class P36TellTest {
    public static void main(String[] args) {
        Check.due("tell(0) without a BOX", new NutsUp().tell(0), -1);
        told(0, 5, 1);
        told(1, 103, 2, 1);
        told(2, 118, 3, 2, 1, 1);
        NutsUp x = Check.nuts("g52;g34l;g93lo");
        Check.due("tell(3)", x.tell(3), -1);
        Check.due("tell(-1)", x.tell(-1), -1);
        Check.due("trace() as it was", x.trace(), 0);
        Check.end();
    }

    private static void told(int g, int due, int... bodies) {
        NutsUp x = Check.nuts("g52;g34l;g93lo");
        Check.due("tell(" + g + ")", x.tell(g), due);
        int trace = 0;
        for (int body : bodies) {
            trace = 31 * trace + body;
        }
        Check.due("trace() of tell(" + g + ")", x.trace(), trace);
    }
}
