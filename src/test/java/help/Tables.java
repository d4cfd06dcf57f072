import java.util.function.IntUnaryOperator;

/** Answers for all LIES of a box, asked one by one, each object for few enough calls. */
final class Tables {
    private static final int CALLS_OF_ONE = 200;

    private Tables() {
    }

    private interface Asked {
        int of(NutsUp x, int lie);
    }

    private static int[] all(String box, String law, Asked asked) {
        NutsUp x = Check.nuts(box, law);
        int[] all = new int[x.many(1)];
        for (int lie = 0; lie < all.length; lie++) {
            if (lie % CALLS_OF_ONE == CALLS_OF_ONE - 1) {
                x = Check.nuts(box, law);
            }
            all[lie] = asked.of(x, lie);
        }
        return all;
    }

    static int[] nexts(String box, String law, int hard) {
        return all(box, law, (x, lie) -> x.next(lie, hard));
    }

    static int[] turns(String box) {
        return all(box, "n01", (x, lie) -> x.lay(lie) < 0 ? -1 : x.turn());
    }

    static int[] spoons(String box) {
        return all(box, "n01", (x, lie) -> x.lay(lie) < 0 || x.spoon() < 0 ? -1 : x.lie());
    }

    /** MIX (0) or PARTS (1) of each LIE. */
    static int[] measures(String box, int what) {
        return all(box, "n01", (x, lie) -> x.mix(lie, what));
    }

    static int[] tops(String box) {
        int top = box.split(";").length - 1;
        return all(box, "n01", (x, lie) -> x.of(lie, top));
    }

    /** Where each LIE is behind k steps of a table. */
    static int[] behind(int[] nexts, int k) {
        int[] behind = new int[nexts.length];
        for (int lie = 0; lie < nexts.length; lie++) {
            behind[lie] = lie;
            for (int s = 0; s < k; s++) {
                behind[lie] = nexts[behind[lie]];
            }
        }
        return behind;
    }

    static int howMany(int[] all, IntUnaryOperator oneIfCounted) {
        int many = 0;
        for (int each : all) {
            many += oneIfCounted.applyAsInt(each);
        }
        return many;
    }
}
