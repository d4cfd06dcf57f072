/** Promise 15: spoon. */
final class P15SpoonTest {
    public static void main(String[] args) {
        Check.due("spoon() without a BOX", new NutsUp().spoon(), -3);
        NutsUp x = Check.nuts("g11;g22;g33;g44");
        Check.due("spoon()", x.spoon(), 0);
        Check.due("lie()", x.lie(), 9);
        Check.due("spoon()", x.spoon(), 1);
        Check.due("lie()", x.lie(), 16);
        Check.due("spoon()", x.spoon(), 2);
        Check.due("lie()", x.lie(), 18);
        Check.due("spoon()", x.spoon(), 3);
        Check.due("lie()", x.lie(), 0);
        Check.due("many(4)", x.many(4), 0);
        NutsUp seven = Check.nuts("g11;g22;g33;g44;g55;g66;g77");
        for (int g = 0; g < 7; g++) {
            Check.due("spoon() of seven", seven.spoon(), g);
            Check.due("at(6)", seven.at(6), g);
        }
        Check.due("lie()", seven.lie(), 0);
        Check.end();
    }
}
