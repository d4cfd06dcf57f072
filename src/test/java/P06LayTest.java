/** Promise 6: lay. */
final class P06LayTest {
    public static void main(String[] args) {
        Check.due("lay(0) without a BOX", new NutsUp().lay(0), -1);
        NutsUp x = Check.nuts("g11;g22;g33;g44;g55;g66;g77");
        Check.due("lay(5039)", x.lay(5039), 0);
        Check.due("lie()", x.lie(), 5039);
        Check.due("lay(17)", x.lay(17), 5039);
        Check.due("lay(-1)", x.lay(-1), -1);
        Check.due("lay(5040)", x.lay(5040), -1);
        Check.due("lie() as it was", x.lie(), 17);
        Check.due("lay(17) again", x.lay(17), 17);
        Check.box(x, "g11;g22");
        Check.due("lay(2) of 2", x.lay(2), -1);
        Check.due("lay(1) of 2", x.lay(1), 0);
        Check.end();
    }
}
