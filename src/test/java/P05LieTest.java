/** Promise 5: lie. */
final class P05LieTest {
    public static void main(String[] args) {
        NutsUp x = new NutsUp();
        Check.law(x, "f11");
        Check.due("lie() without a BOX", x.lie(), -3);
        Check.box(x, "g22;g11");
        Check.due("lie() at first", x.lie(), 0);
        x.shake(1, 1);
        Check.due("lie() behind a SHAKE", x.lie(), 1);
        Check.box(x, "g22;g11");
        Check.due("lie() of a new BOX", x.lie(), 0);
        NutsUp seven = Check.nuts("g11;g22;g33;g44;g55;g66;g77");
        seven.turn();
        Check.due("lie(), the greatest", seven.lie(), 5039);
        Check.end();
    }
}
