/** Promise 14: turn. */
final class P14TurnTest {
    public static void main(String[] args) {
        Check.due("turn() without a BOX", new NutsUp().turn(), -3);
        NutsUp x = Check.nuts("g11;g22;g33;g44");
        Check.due("turn() of LIE 0", x.turn(), 23);
        Check.due("lie()", x.lie(), 23);
        Check.due("turn() back", x.turn(), 0);
        x.lay(9);
        Check.due("turn() of 1, 2, 3, 0", x.turn(), 5);
        Check.due("at(0)", x.at(0), 0);
        Check.due("at(3)", x.at(3), 1);
        Check.due("many(4)", x.many(4), 0);
        NutsUp seven = Check.nuts("g11;g22;g33;g44;g55;g66;g77");
        Check.due("turn() of seven", seven.turn(), 5039);
        NutsUp two = Check.nuts("g11;g22");
        Check.due("turn() of two", two.turn(), 1);
        Check.end();
    }
}
