/** Promise 24: bare. */
final class P24BareTest {
    public static void main(String[] args) {
        NutsUp x = Check.nuts("g11;g22;g33", "f12", "h11");
        Check.due("bare(1)", x.bare(1), 0);
        Check.due("bare(2)", x.bare(2), 4);
        Check.due("bare(3)", x.bare(3), 4);
        x.use(1);
        Check.due("bare(1) by LAW 1", x.bare(1), 4);
        Check.due("bare(0)", x.bare(0), -2);
        Check.due("bare(4)", x.bare(4), -2);
        NutsUp round = Check.nuts(Check.repeated("g11", 7, ";"), "f01");
        Check.due("bare(1) of alike", round.bare(1), 0);
        String box = "g31;g12;g21lo;g22l;g32";
        for (int hard = 1; hard <= 3; hard++) {
            int[] come = new int[120];
            for (int to : Tables.nexts(box, "h02;n31;f01;n43", hard)) {
                come[to] = 1;
            }
            NutsUp five = Check.nuts(box, "h02;n31;f01;n43");
            Check.due("bare(" + hard + ") of five", five.bare(hard), Tables.howMany(come, one -> 1 - one));
        }
        NutsUp two = Check.nuts("g11;g22", "f11");
        Check.due("bare(1) of two", two.bare(1), 1);
        NutsUp y = new NutsUp();
        Check.due("bare(1) without a BOX, a LAW", y.bare(1), -3);
        Check.due("bare(4) without a BOX, a LAW", y.bare(4), -2);
        Check.box(y, "g11;g22");
        Check.due("bare(1) without a LAW", y.bare(1), -3);
        y = new NutsUp();
        Check.law(y, "f11");
        Check.due("bare(1) without a BOX", y.bare(1), -3);
        Check.end();
    }
}
