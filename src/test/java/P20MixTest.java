/** Promise 20: mix. */
final class P20MixTest {
    public static void main(String[] args) {
        Check.due("mix(0, 0) without a BOX", new NutsUp().mix(0, 0), -1);
        NutsUp x = Check.nuts("g51;g11l;g79lo;g11");
        Check.due("mix(0, 0) of 5, 1, 7, 1", x.mix(0, 0), 16);
        Check.due("mix(0, 1) of 5, 1, 7, 1", x.mix(0, 1), 2);
        Check.due("mix(23, 0) of 1, 7, 1, 5", x.mix(23, 0), 16);
        Check.due("mix(23, 1) of 1, 7, 1, 5", x.mix(23, 1), 3);
        Check.due("mix(11, 0) of 1, 1, 7, 5", x.mix(11, 0), 8);
        Check.due("mix(11, 1) of 1, 1, 7, 5", x.mix(11, 1), 4);
        Check.due("mix(24, 2)", x.mix(24, 2), -1);
        Check.due("mix(-1, 0)", x.mix(-1, 0), -1);
        Check.due("mix(0, -1)", x.mix(0, -1), -2);
        Check.due("mix(23, 2)", x.mix(23, 2), -2);
        NutsUp seven = Check.nuts("g91;g11;g91;g11;g91;g11;g91");
        Check.due("mix(0, 0), the greatest", seven.mix(0, 0), 48);
        NutsUp parted = Check.nuts("g11;g21;g31;g41;g51;g61;g71");
        Check.due("mix(0, 1), the greatest", parted.mix(0, 1), 21);
        Check.due("mix(5039, 1), the least", parted.mix(5039, 1), 0);
        Check.end();
    }
}
