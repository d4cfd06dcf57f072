/** Promise 33: put. */
final class P33PutTest {
    private static final int[] VALUES = {0, 1, -1, 127, 128, 255, 256, -128, -129, 32767, 32768, 65535, 65536, -32768,
        -32769, Integer.MAX_VALUE, Integer.MIN_VALUE};

    public static void main(String[] args) {
        NutsUp x = new NutsUp();
        x.sheet(0, 0, 60);
        x.sheet(1, 1, 60);
        x.sheet(2, 2, 60);
        for (int v : VALUES) {
            for (int k = 0; k < 3; k++) {
                Check.dueFault(x, "put(" + k + ", 7, " + v + ")", x.put(k, 7, v), 1, 0);
            }
            Check.due("byte of " + v, x.cell(0, 7, 0), (byte) v);
            Check.due("short of " + v, x.cell(1, 7, 1), (short) v);
            Check.due("int of " + v, x.cell(2, 7, 2), v);
        }
        Check.due("put(2, 59, 8)", x.put(2, 59, 8), 1);
        Check.due("cell(2, 59, 2)", x.cell(2, 59, 2), 8);
        Check.due("cell(2, 58, 2)", x.cell(2, 58, 2), 0);
        Check.dueFault(x, "put(2, 60, 8)", x.put(2, 60, 8), -13, 3);
        Check.dueFault(x, "put(2, -1, 8)", x.put(2, -1, 8), -13, 3);
        Check.dueFault(x, "put(2, MAX, 8)", x.put(2, Integer.MAX_VALUE, 8), -13, 3);
        Check.dueFault(x, "put(3, -1, 8)", x.put(3, -1, 8), -11, 1);
        Check.dueFault(x, "put(4, 0, 8)", x.put(4, 0, 8), -1, 0);
        Check.dueFault(x, "put(-1, -1, 8)", x.put(-1, -1, 8), -1, 0);
        x.sheet(3, 0, 0);
        Check.dueFault(x, "put(3, 0, 8) of none", x.put(3, 0, 8), -13, 3);
        Check.end();
    }
}
