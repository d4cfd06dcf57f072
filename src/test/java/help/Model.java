import java.util.ArrayList;
import java.util.Arrays;
import java.util.HashMap;
import java.util.List;
import java.util.Map;

/** The document once more, in the slowest and plainest form: rows are texts, and all that can be is tried. */
final class Model {
    static final long LOST = Long.MIN_VALUE;

    private List<String> grains = new ArrayList<>();
    private List<String> rows = new ArrayList<>();
    private String now = "";
    private final List<String[]> laws = new ArrayList<>();
    private int used;
    private int shakes;
    private final List<int[]> readings = new ArrayList<>();
    private final Object[] sheets = new Object[4];
    private int trace;
    private int fault;
    private final Map<String, String> known = new HashMap<>();

    // ---- 1 the box

    int box(int sheet, int sort, int i, int n) {
        int refused = refusedCells(sheet, sort, i, n);
        if (refused != 0) {
            return refused;
        }
        String text = text(sheet, i, n);
        int fine = longestStart(text, "g[1-9][1-9](l(o)?)?", 7);
        String[] parts = text.split(";", -1);
        boolean whole = fine == n && parts.length >= 2 && parts[parts.length - 1].matches("g[1-9][1-9](l(o)?)?");
        if (!whole) {
            return -100 - fine;
        }
        grains = Arrays.asList(parts);
        rows = new ArrayList<>();
        permute("", "0123456".substring(0, parts.length));
        now = rows.get(0);
        readings.clear();
        shakes = 0;
        known.clear();
        return parts.length;
    }

    private void permute(String row, String left) {
        if (left.isEmpty()) {
            rows.add(row);
        }
        for (int i = 0; i < left.length(); i++) {
            permute(row + left.charAt(i), left.substring(0, i) + left.substring(i + 1));
        }
    }

    /** How many codes a TEXT of parts with ; between can begin with: the greatest that some TEXT begins with. */
    private static int longestStart(String text, String part, int most) {
        int fine = 0;
        for (int n = 1; n <= text.length(); n++) {
            if (!isStart(text.substring(0, n), part, most)) {
                return fine;
            }
            fine = n;
        }
        return fine;
    }

    private static boolean isStart(String text, String part, int most) {
        String[] parts = text.split(";", -1);
        for (int p = 0; p < parts.length - 1; p++) {
            if (!parts[p].matches(part)) {
                return false;
            }
        }
        String last = parts[parts.length - 1];
        if (parts.length > most) {
            return false;
        }
        for (String end : new String[] {"", "1", "11", "g11", "f11"}) {
            if ((last + end).matches(part)) {
                return true;
            }
        }
        return false;
    }

    private int kind(int g) {
        return grains.get(g).length() - 3;
    }

    private int size(int g) {
        return grains.get(g).charAt(1) - '0';
    }

    private int weight(int g) {
        return grains.get(g).charAt(2) - '0';
    }

    private int bulk(int g) {
        return kind(g) >= 1 ? size(g) - 1 : size(g);
    }

    private int heft(int g) {
        return kind(g) == 2 ? weight(g) + 2 : weight(g);
    }

    int ofGrain(int g, int what) {
        if (!isGrain(g)) {
            return -1;
        }
        if (what < 0 || what > 5) {
            return -2;
        }
        return new int[] {kind(g), size(g), weight(g), bulk(g), heft(g), now.indexOf('0' + g)}[what];
    }

    int at(int place) {
        return isGrain(place) ? now.charAt(place) - '0' : -1;
    }

    int lie() {
        return grains.isEmpty() ? -3 : rows.indexOf(now);
    }

    int lay(int lie) {
        if (!isLie(lie)) {
            return -1;
        }
        int was = rows.indexOf(now);
        now = rows.get(lie);
        return was;
    }

    int of(int lie, int place) {
        return isLie(lie) && isGrain(place) ? rows.get(lie).charAt(place) - '0' : -1;
    }

    // ---- 2 laws, shakes

    int law(int sheet, int sort, int i, int n) {
        int refused = refusedCells(sheet, sort, i, n);
        if (refused != 0) {
            return refused;
        }
        String text = text(sheet, i, n);
        String part = "[fhrtna][0-9][1-3]";
        int fine = longestStart(text, part, 6);
        if (fine < n || !text.matches(part + "(;" + part + ")*")) {
            return -100 - fine;
        }
        if (laws.size() == 4) {
            return -4;
        }
        laws.add(text.split(";"));
        return laws.size() - 1;
    }

    int ofCause(int l, int c, int what) {
        if (l < 0 || l >= laws.size() || c < 0 || c >= laws.get(l).length) {
            return -1;
        }
        String cause = laws.get(l)[c];
        switch (what) {
            case 0:
                return "fhrtna".indexOf(cause.charAt(0));
            case 1:
            case 2:
                return cause.charAt(what) - '0';
            default:
                return -2;
        }
    }

    int use(int l) {
        if (l < 0 || l >= laws.size()) {
            return -1;
        }
        int was = used;
        used = l;
        return was;
    }

    int cause(int x, int y, int place, int hard) {
        if (!isGrain(x) || !isGrain(y)) {
            return -1;
        }
        if (x == y || place < 0 || place >= grains.size() - 1 || !isHard(hard)) {
            return -2;
        }
        return laws.isEmpty() ? -3 : ruling(used, x, y, place, hard, -1);
    }

    private int ruling(int l, int x, int y, int place, int hard, int without) {
        String[] causes = laws.get(l);
        for (int c = 0; c < causes.length; c++) {
            int d = causes[c].charAt(1) - '0';
            int least = causes[c].charAt(2) - '0';
            if (c != without && least <= hard && isSo(causes[c].charAt(0), d, x, y, place)) {
                return c;
            }
        }
        return -9;
    }

    private boolean isSo(char letter, int d, int x, int y, int place) {
        boolean f = bulk(x) >= bulk(y) + d;
        boolean h = heft(y) >= heft(x) + d && heft(y) != heft(x);
        boolean r = bulk(x) >= d && !(heft(x) < heft(y)) && bulk(x) > bulk(y);
        boolean t = kind(x) != 0 && kind(y) == 0 && place < d;
        boolean n = !(place < d);
        boolean a = heft(x) - heft(y) < d && heft(y) - heft(x) < d;
        return letter == 'f' ? f : letter == 'h' ? h : letter == 'r' ? r : letter == 't' ? t : letter == 'n' ? n : a;
    }

    /** The row behind a SHAKE, and behind a blank how many changes there were. */
    private String shaken(String row, int l, int hard, int without) {
        return known.computeIfAbsent(row + l + hard + without, key -> shakenAnew(row, l, hard, without));
    }

    private String shakenAnew(String row, int l, int hard, int without) {
        char[] lies = row.toCharArray();
        int changes = 0;
        for (int start = 0; start < 2; start++) {
            for (int p = start; p < lies.length - 1; p += 2) {
                int rules = ruling(l, lies[p] - '0', lies[p + 1] - '0', p, hard, without);
                if (rules >= 0 && "fhrt".indexOf(laws.get(l)[rules].charAt(0)) >= 0) {
                    char x = lies[p];
                    lies[p] = lies[p + 1];
                    lies[p + 1] = x;
                    changes++;
                }
            }
        }
        return new String(lies) + " " + changes;
    }

    private String goes(String row, int l, int hard, int without) {
        return shaken(row, l, hard, without).split(" ")[0];
    }

    int shake(int hard, int n) {
        if (!isHard(hard) || n < 0 || n > 99) {
            return -2;
        }
        if (grains.isEmpty() || laws.isEmpty()) {
            return -3;
        }
        int changes = 0;
        for (int s = 0; s < n; s++) {
            changes += shakeNow(hard);
        }
        return changes;
    }

    private int shakeNow(int hard) {
        String[] behind = shaken(now, used, hard, -1).split(" ");
        now = behind[0];
        shakes++;
        return Integer.parseInt(behind[1]);
    }

    int doing(int sheet, int sort, int i, int n) {
        int refused = refusedCells(sheet, sort, i, n);
        if (refused != 0) {
            return refused;
        }
        for (int c = i; c < i + n; c++) {
            if (!isHard(at(sheet, c))) {
                return -2;
            }
        }
        if (grains.isEmpty() || laws.isEmpty()) {
            return -3;
        }
        int changes = 0;
        for (int c = i; c < i + n; c++) {
            changes += shakeNow(at(sheet, c));
        }
        return changes;
    }

    int turn() {
        if (grains.isEmpty()) {
            return -3;
        }
        now = new StringBuilder(now).reverse().toString();
        return rows.indexOf(now);
    }

    int spoon() {
        if (grains.isEmpty()) {
            return -3;
        }
        char lowest = now.charAt(0);
        now = now.substring(1) + lowest;
        return lowest - '0';
    }

    // ---- 3 where it goes

    int next(int lie, int hard) {
        int refused = refusedLie(lie, hard);
        return refused != 0 ? refused : rows.indexOf(goes(rows.get(lie), used, hard, -1));
    }

    private int refusedLie(int lie, int hard) {
        return !isLie(lie) ? -1 : !isHard(hard) ? -2 : laws.isEmpty() ? -3 : 0;
    }

    /** The rows that it comes to, each once, and at last the one that comes again. */
    private List<String> walk(String row, int hard, int without) {
        List<String> walk = new ArrayList<>();
        String at = row;
        while (!walk.contains(at)) {
            walk.add(at);
            at = goes(at, used, hard, without);
        }
        walk.add(at);
        return walk;
    }

    int still(int lie, int hard, int what) {
        if (!isLie(lie)) {
            return -1;
        }
        if (!isHard(hard) || what < 0 || what > 1) {
            return -2;
        }
        if (laws.isEmpty()) {
            return -3;
        }
        List<String> walk = walk(rows.get(lie), hard, -1);
        int last = walk.size() - 1;
        int first = walk.indexOf(walk.get(last));
        return what == 0 ? first : last - first;
    }

    private int soonest(int g, int lie, int hard, int without) {
        List<String> walk = walk(rows.get(lie), hard, without);
        for (int s = 0; s < walk.size(); s++) {
            if (walk.get(s).endsWith("" + g)) {
                return s;
            }
        }
        return -9;
    }

    int soon(int g, int lie, int hard) {
        if (!isGrain(g)) {
            return -1;
        }
        int refused = refusedLie(lie, hard);
        return refused != 0 ? refused : soonest(g, lie, hard, -1);
    }

    int boss(int g, int lie, int hard) {
        int soon = soon(g, lie, hard);
        if (soon < 0 && soon != -9) {
            return soon;
        }
        int[] by = new int[laws.get(used).length];
        int most = 0;
        for (int c = 0; c < by.length; c++) {
            int without = soonest(g, lie, hard, c);
            by[c] = Math.abs((without < 0 ? 9999 : without) - (soon < 0 ? 9999 : soon));
            most = Math.max(most, by[c]);
        }
        for (int c = 0; c < by.length && most > 0; c++) {
            if (by[c] == most) {
                return c;
            }
        }
        return -9;
    }

    int mix(int lie, int what) {
        return !isLie(lie) ? -1 : what < 0 || what > 1 ? -2 : measure(rows.get(lie), what);
    }

    private int measure(String row, int what) {
        int mix = 0;
        int parts = 0;
        for (int p = 0; p < row.length(); p++) {
            for (int above = p + 1; above < row.length(); above++) {
                int differ = size(row.charAt(above) - '0') - size(row.charAt(p) - '0');
                mix += above == p + 1 ? Math.abs(differ) : 0;
                parts += differ > 0 ? 1 : 0;
            }
        }
        return what == 0 ? mix : parts;
    }

    // ---- 4 doings

    int plan(int aim, int k, int q) {
        if (aim < 0 || aim > 1 || k < 0 || k > 9) {
            return -2;
        }
        if (q < -2 || q > 8) {
            return -1;
        }
        if (grains.isEmpty() || laws.isEmpty()) {
            return -3;
        }
        String best = "";
        int most = measure(now, aim);
        List<String[]> doings = new ArrayList<>();
        doings.add(new String[] {"", now});
        for (int length = 1; length <= k; length++) {
            List<String[]> longer = new ArrayList<>();
            for (String[] doing : doings) {
                for (int hard = 1; hard <= 3; hard++) {
                    String[] one = {doing[0] + hard, goes(doing[1], used, hard, -1)};
                    longer.add(one);
                    if (measure(one[1], aim) > most) {
                        most = measure(one[1], aim);
                        best = one[0];
                    }
                }
            }
            doings = longer;
        }
        return q == -1 ? most : q == -2 ? best.length() : q < best.length() ? best.charAt(q) - '0' : -9;
    }

    int way(int a, int b, int q) {
        if (!isLie(a) || !isLie(b) || q < -1) {
            return -1;
        }
        if (laws.isEmpty()) {
            return -3;
        }
        Map<String, String> ways = new HashMap<>();
        ways.put(rows.get(a), "");
        boolean more = true;
        while (more && !ways.containsKey(rows.get(b))) {
            Map<String, String> further = new HashMap<>();
            for (Map.Entry<String, String> one : ways.entrySet()) {
                for (int by = 1; by <= 5; by++) {
                    String to = moved(one.getKey(), by);
                    if (!ways.containsKey(to)) {
                        further.merge(to, one.getValue() + by, Model::shorterOrFirst);
                    }
                }
            }
            more = !further.isEmpty();
            ways.putAll(further);
        }
        String way = ways.get(rows.get(b));
        if (way == null) {
            return -9;
        }
        return q == -1 ? way.length() : q < way.length() ? way.charAt(q) - '0' : -9;
    }

    private static String shorterOrFirst(String one, String other) {
        if (one.length() != other.length()) {
            return one.length() < other.length() ? one : other;
        }
        return one.compareTo(other) < 0 ? one : other;
    }

    private String moved(String row, int by) {
        if (by == 4) {
            return new StringBuilder(row).reverse().toString();
        }
        return by == 5 ? row.substring(1) + row.charAt(0) : goes(row, used, by, -1);
    }

    // ---- 5 backwards

    private String behind(String row, int k, int hard) {
        String at = row;
        for (int s = 0; s < k; s++) {
            at = goes(at, used, hard, -1);
        }
        return at;
    }

    int come(int lie, int k, int hard) {
        if (!isLie(lie)) {
            return -1;
        }
        if (k < 0 || k > 99 || !isHard(hard)) {
            return -2;
        }
        if (laws.isEmpty()) {
            return -3;
        }
        int come = 0;
        for (String row : rows) {
            come += behind(row, k, hard).equals(rows.get(lie)) ? 1 : 0;
        }
        return come;
    }

    int bare(int hard) {
        if (!isHard(hard)) {
            return -2;
        }
        if (grains.isEmpty() || laws.isEmpty()) {
            return -3;
        }
        List<String> left = new ArrayList<>(rows);
        for (String row : rows) {
            left.remove(goes(row, used, hard, -1));
        }
        return left.size();
    }

    long odds(int g, int k, int hard, int which) {
        if (!isGrain(g) || k < 0 || k > 99 || !isHard(hard) || which < 0 || which > 1 || laws.isEmpty()) {
            return LOST;
        }
        int top = 0;
        for (String row : rows) {
            top += behind(row, k, hard).endsWith("" + g) ? 1 : 0;
        }
        int by = rows.size();
        while (top % by != 0 || rows.size() % by != 0) {
            by--;
        }
        return which == 0 ? top / by : rows.size() / by;
    }

    int reading(int g, int place) {
        if (!isGrain(g) || !isGrain(place)) {
            return -1;
        }
        if (readings.size() == 8) {
            return -4;
        }
        readings.add(new int[] {g, place});
        return readings.size() - 1;
    }

    int back(int k) {
        if (k < 0 || k > readings.size()) {
            return -2;
        }
        for (int r = 0; r < k; r++) {
            readings.remove(readings.size() - 1);
        }
        return readings.size();
    }

    int fits(int lie, int hard) {
        int refused = refusedLie(lie, hard);
        if (refused != 0) {
            return refused;
        }
        int set = 0;
        for (int s = 0; s <= 30; s++) {
            String row = behind(rows.get(lie), s, hard);
            boolean fit = true;
            for (int[] reading : readings) {
                fit &= row.charAt(reading[1]) - '0' == reading[0];
            }
            set += fit ? 1 << s : 0;
        }
        return set;
    }

    int which(int a, int b, int sheet, int sort, int i, int n) {
        if (!isLie(a) || !isLie(b)) {
            fault = 0;
            return -1;
        }
        int refused = refusedCells(sheet, sort, i, n);
        if (refused != 0) {
            return refused;
        }
        for (int c = i; c < i + n; c++) {
            if (!isHard(at(sheet, c))) {
                return -2;
            }
        }
        int set = 0;
        for (int l = 0; l < laws.size(); l++) {
            String row = rows.get(a);
            for (int c = i; c < i + n; c++) {
                row = goes(row, l, at(sheet, c), -1);
            }
            set += row.equals(rows.get(b)) ? 1 << l : 0;
        }
        return set;
    }

    int bears(int hard, int m) {
        if (!isHard(hard) || m < 0 || m > 99) {
            return -2;
        }
        if (grains.isEmpty() || laws.isEmpty()) {
            return -3;
        }
        List<String> walk = walk(now, hard, -1);
        for (int s = 0; s < walk.size(); s++) {
            if (measure(walk.get(s), 0) < m) {
                return s - 1;
            }
        }
        return -9;
    }

    // ---- 6 sheets, parts

    int sheet(int k, int sort, int n) {
        fault = 0;
        if (!isSheet(k)) {
            return -1;
        }
        if (sort < 0 || sort > 2 || n > 60) {
            return -2;
        }
        if (n < 0) {
            return faulted(4);
        }
        sheets[k] = sort == 0 ? new byte[n] : sort == 1 ? new short[n] : new int[n];
        return 1;
    }

    int lose(int k) {
        if (!isSheet(k)) {
            return -1;
        }
        int had = sheets[k] == null ? 0 : 1;
        sheets[k] = null;
        return had;
    }

    int put(int k, int i, int v) {
        fault = 0;
        if (!isSheet(k)) {
            return -1;
        }
        if (sheets[k] == null) {
            return faulted(1);
        }
        if (i < 0 || i >= java.lang.reflect.Array.getLength(sheets[k])) {
            return faulted(3);
        }
        if (sheets[k] instanceof byte[] bytes) {
            bytes[i] = (byte) v;
        } else if (sheets[k] instanceof short[] shorts) {
            shorts[i] = (short) v;
        } else if (sheets[k] instanceof int[] ints) {
            ints[i] = v;
        }
        return 1;
    }

    long cell(int k, int i, int sort) {
        int refused = refusedCells(k, sort, i, 1);
        return refused != 0 ? LOST : at(k, i);
    }

    int copy(int k, int i, int other, int j, int n) {
        fault = 0;
        if (!isSheet(k) || !isSheet(other)) {
            return -1;
        }
        if (sheets[k] == null || sheets[other] == null) {
            return faulted(1);
        }
        if (sheets[k].getClass() != sheets[other].getClass()) {
            return faulted(2);
        }
        try {
            System.arraycopy(sheets[k], i, sheets[other], j, n);
        } catch (IndexOutOfBoundsException e) {
            return faulted(3);
        }
        return n;
    }

    int tell(int g) {
        if (!isGrain(g)) {
            return -1;
        }
        leave(kind(g) == 0 ? "1" : kind(g) == 1 ? "21" : "3211");
        return kind(g) == 0 ? size(g) : kind(g) == 1 ? size(g) + 100 : size(g) + 100 + size(g);
    }

    int sift(int g) {
        if (!isGrain(g)) {
            return -1;
        }
        leave(kind(g) == 2 ? "5" : "4");
        return kind(g) == 2 ? 50 : g;
    }

    private void leave(String bodies) {
        for (char body : bodies.toCharArray()) {
            trace = trace * 31 + (body - '0');
        }
    }

    int as(int g, int kind) {
        fault = 0;
        return !isGrain(g) ? -1 : kind < 0 || kind > 2 ? -2 : kind(g) >= kind ? 1 : faulted(2);
    }

    int trace() {
        return trace;
    }

    int fault() {
        return fault;
    }

    int many(int what) {
        int inForce = laws.isEmpty() ? -9 : used;
        int[] many = {grains.size(), rows.size(), laws.size(), readings.size(), shakes, inForce};
        return what < 0 || what > 5 ? -2 : many[what];
    }

    // ---- what the calls share

    private boolean isGrain(int g) {
        return g >= 0 && g < grains.size();
    }

    private boolean isLie(int lie) {
        return lie >= 0 && lie < rows.size();
    }

    private static boolean isHard(int hard) {
        return hard >= 1 && hard <= 3;
    }

    private static boolean isSheet(int k) {
        return k >= 0 && k < 4;
    }

    private int faulted(int number) {
        fault = number;
        return -10 - number;
    }

    private int refusedCells(int k, int sort, int i, int n) {
        fault = 0;
        if (!isSheet(k)) {
            return -1;
        }
        if (sort < 0 || sort > 2) {
            return -2;
        }
        if (sheets[k] == null) {
            return faulted(1);
        }
        int has = sheets[k] instanceof byte[] ? 0 : sheets[k] instanceof short[] ? 1 : 2;
        if (has != sort) {
            return faulted(2);
        }
        if (n < 0) {
            return faulted(4);
        }
        long length = java.lang.reflect.Array.getLength(sheets[k]);
        return i < 0 || i > length || (long) i + n > length ? faulted(3) : 0;
    }

    private int at(int k, int i) {
        return ((Number) java.lang.reflect.Array.get(sheets[k], i)).intValue();
    }

    /** The codes as signs; what is no sign of a TEXT becomes a blank. */
    private String text(int k, int i, int n) {
        StringBuilder text = new StringBuilder();
        for (int c = i; c < i + n; c++) {
            int code = at(k, c);
            text.append(code > 32 && code < 127 ? (char) code : ' ');
        }
        return text.toString();
    }
}
