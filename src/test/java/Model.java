import java.util.ArrayDeque;
import java.util.ArrayList;
import java.util.Deque;
import java.util.List;
import java.util.TreeSet;
import java.util.function.IntPredicate;
import java.util.regex.Matcher;
import java.util.regex.Pattern;

/** The document once more, as slow and as plain as can be, to check the class against. */
public final class Model {
    private static final int BAD = -1, NO = -2, FULL = -3, NONE = -4;
    private static final Pattern ITEM = Pattern.compile(
        "x(?<x>\\d{1,2})|f(?<f>\\d{1,2}),(?<g>\\d{1,2})|c(?<c>\\d{1,2})|d(?<d>\\d{1,2})|w(?<w>\\d{1,2})"
        + "|e(?<e>\\d{1,4}([-+*]\\d{1,4})*)");

    private record Standing(TreeSet<Integer> strikers, int[] standIns) {
        Standing copy() {
            return new Standing(new TreeSet<>(strikers), standIns.clone());
        }
    }

    private String text = "";
    private TreeSet<Integer> strikers;
    private int[] standIns;
    private List<Integer> coins;
    private int sides;
    private int week;
    private String sum;
    private List<int[]> told = new ArrayList<>();
    private Deque<Standing> past = new ArrayDeque<>();
    private Deque<Standing> kept = new ArrayDeque<>();

    private TreeSet<Integer> newStrikers;
    private int[] newStandIns;
    private List<Integer> newCoins;
    private int newSides;
    private int newWeek;
    private String newSum;

    public Model() {
        text = "x7;f7,6;c5;c10;c27;c50;e56+7*8-17;";
        lay();
        text = "";
    }

    public int write(int letter) {
        if (letter < 32 || letter > 126) {
            return BAD;
        }
        if (text.length() == 200) {
            return FULL;
        }
        text += (char) letter;
        return text.length();
    }

    public int wipe() {
        int was = text.length();
        text = "";
        return was;
    }

    public int fault() {
        newStrikers = new TreeSet<>();
        newStandIns = new int[] {0, 1, 2, 3, 4, 5, 6, 7, 8, 9};
        newCoins = new ArrayList<>();
        newSides = 6;
        newWeek = 7;
        newSum = "";
        int at = 0;
        while (at < text.length()) {
            int end = text.indexOf(';', at);
            if (end < 0 || !isSo(text.substring(at, end))) {
                return at;
            }
            at = end + 1;
        }
        return NONE;
    }

    private boolean isSo(String item) {
        Matcher m = ITEM.matcher(item);
        if (!m.matches()) {
            return false;
        }
        if (m.group("e") != null) {
            newSum = m.group("e");
            return newSum.length() <= 20;
        }
        if (m.group("x") != null) {
            newStrikers.add(Integer.parseInt(m.group("x")));
            return newStrikers.last() <= 9;
        }
        if (m.group("f") != null) {
            int f = Integer.parseInt(m.group("f"));
            int g = Integer.parseInt(m.group("g"));
            if (f > 9 || g > 9) {
                return false;
            }
            newStandIns[f] = g;
            return true;
        }
        if (m.group("c") != null) {
            Integer c = Integer.valueOf(m.group("c"));
            if (c == 0 || newCoins.contains(c)) {
                return false;
            }
            newCoins.add(c);
            return newCoins.size() <= 6;
        }
        if (m.group("d") != null) {
            newSides = Integer.parseInt(m.group("d"));
            return newSides >= 2 && newSides <= 9;
        }
        newWeek = Integer.parseInt(m.group("w"));
        return newWeek >= 1 && newWeek <= 9;
    }

    public int lay() {
        if (fault() != NONE) {
            return NO;
        }
        strikers = newStrikers;
        standIns = newStandIns;
        coins = newCoins;
        sides = newSides;
        week = newWeek;
        sum = newSum;
        told.clear();
        past.clear();
        kept.clear();
        return strikers.size();
    }

    private static boolean in(int n, int least, int most) {
        return least <= n && n <= most;
    }

    public int figure(int f, int what) {
        if (!in(f, 0, 9) || !in(what, 0, 1)) {
            return BAD;
        }
        return what == 1 ? standIns[f] : strikers.contains(f) ? 1 : 0;
    }

    public int coin(int k) {
        return in(k, 0, coins.size() - 1) ? coins.get(k) : BAD;
    }

    private void remember() {
        past.push(new Standing(strikers, standIns).copy());
        if (past.size() > 8) {
            past.removeLast();
        }
    }

    public int strike(int f, int is) {
        if (!in(f, 0, 9) || !in(is, 0, 1)) {
            return BAD;
        }
        if (strikers.contains(f) == (is == 1)) {
            return NO;
        }
        remember();
        if (is == 1) {
            strikers.add(f);
        } else {
            strikers.remove(f);
        }
        return strikers.size();
    }

    public int standIn(int f, int g) {
        if (!in(f, 0, 9) || !in(g, 0, 9)) {
            return BAD;
        }
        remember();
        int did = standIns[f];
        standIns[f] = g;
        return did;
    }

    public int undo() {
        if (past.isEmpty()) {
            return NO;
        }
        Standing was = past.pop();
        strikers = was.strikers();
        standIns = was.standIns();
        return past.size();
    }

    private static boolean can(int n, TreeSet<Integer> strikers) {
        for (char c : String.valueOf(n).toCharArray()) {
            if (strikers.contains(c - '0')) {
                return false;
            }
        }
        return true;
    }

    private boolean can(int n) {
        return can(n, strikers);
    }

    private static int howMany(int n, TreeSet<Integer> strikers) {
        int many = 0;
        for (int m = 0; m <= n; m++) {
            many += can(m, strikers) ? 1 : 0;
        }
        return many;
    }

    public int said(int n) {
        return !in(n, 0, 99999) ? BAD : can(n) ? 1 : 0;
    }

    public int next(int n) {
        if (!in(n, 0, 99999)) {
            return BAD;
        }
        for (int m = n + 1; m <= 99999; m++) {
            if (can(m)) {
                return m;
            }
        }
        return NONE;
    }

    public int rank(int n) {
        return in(n, 0, 99999) ? howMany(n, strikers) : BAD;
    }

    public int kth(int k) {
        if (!in(k, 0, 99999)) {
            return BAD;
        }
        int less = 0;
        for (int n = 0; n <= 99999; n++) {
            if (can(n)) {
                if (less == k) {
                    return n;
                }
                less++;
            }
        }
        return NONE;
    }

    public int sum(int what) {
        if (!in(what, 0, 2)) {
            return BAD;
        }
        if (sum.isEmpty()) {
            return 0;
        }
        if (what == 2) {
            return sum.split("[-+*]").length;
        }
        StringBuilder heard = new StringBuilder();
        for (char c : sum.toCharArray()) {
            boolean other = what == 1 && Character.isDigit(c) && strikers.contains(c - '0');
            heard.append(other ? (char) ('0' + standIns[c - '0']) : c);
        }
        long total = 0;
        for (String term : heard.toString().split("(?=[-+])")) {
            boolean minus = term.startsWith("-");
            String[] factors = term.replaceAll("[-+]", "").split("\\*");
            long product = Long.parseLong(factors[0]);
            for (int i = 1; i < factors.length; i++) {
                product = within(product * Long.parseLong(factors[i]));
            }
            total = within(minus ? total - product : total + product);
        }
        return (int) total;
    }

    private static long within(long n) {
        return n > 2000000000 ? 2000000000 : n < -2000000000 ? -2000000000 : n;
    }

    /** All ways to say n, in the order in which ties are broken: kind, a, b. */
    private List<int[]> waysToSay(int n) {
        List<Integer> sayable = new ArrayList<>();
        for (int m = 0; m <= 999; m++) {
            if (can(m)) {
                sayable.add(m);
            }
        }
        List<int[]> ways = new ArrayList<>();
        if (can(n)) {
            ways.add(new int[] {0, n, 0});
        }
        for (int kind = 1; kind <= 3; kind++) {
            for (int a : sayable) {
                for (int b : sayable) {
                    boolean so = kind == 1 ? a <= b && a + b == n
                        : kind == 2 ? b >= 1 && a - b == n : a <= b && a * b == n;
                    if (so) {
                        ways.add(new int[] {kind, a, b});
                    }
                }
            }
        }
        return ways;
    }

    public int ways(int n) {
        return in(n, 0, 999) ? waysToSay(n).size() : BAD;
    }

    private static int letters(int[] way) {
        String a = String.valueOf(way[1]);
        return way[0] == 0 ? a.length() : (a + "?" + way[2]).length();
    }

    public int shortest(int n, int what) {
        if (!in(n, 0, 999) || !in(what, 0, 3)) {
            return BAD;
        }
        int[] best = null;
        for (int[] way : waysToSay(n)) {
            if (best == null || letters(way) < letters(best)) {
                best = way;
            }
        }
        return best == null ? NONE : what == 0 ? letters(best) : best[what - 1];
    }

    private List<Integer> named() {
        List<Integer> named = new ArrayList<>();
        for (int c : coins) {
            if (can(c)) {
                named.add(c);
            }
        }
        return named;
    }

    public int change(int n) {
        if (!in(n, 0, 200)) {
            return BAD;
        }
        TreeSet<Integer> reached = new TreeSet<>(List.of(0));
        for (int many = 0; many <= 200; many++) {
            if (reached.contains(n)) {
                return many;
            }
            TreeSet<Integer> further = new TreeSet<>();
            for (int m : reached) {
                for (int c : named()) {
                    if (m + c <= n) {
                        further.add(m + c);
                    }
                }
            }
            reached = further;
        }
        return NONE;
    }

    public int never() {
        for (int n = 200; n >= 1; n--) {
            if (change(n) == NONE) {
                return n;
            }
        }
        return NONE;
    }

    public int pays(int n) {
        return in(n, 0, 200) ? payments(n, named(), 0) : BAD;
    }

    private int payments(int n, List<Integer> named, int k) {
        if (n == 0) {
            return 1;
        }
        if (k == named.size()) {
            return 0;
        }
        if (k == named.size() - 1) {
            return n % named.get(k) == 0 ? 1 : 0;
        }
        int many = 0;
        for (int rest = n; rest >= 0; rest -= named.get(k)) {
            many += payments(rest, named, k + 1);
        }
        return many;
    }

    public int day(int n) {
        if (!in(n, 0, 9999)) {
            return BAD;
        }
        int left = n;
        for (int all = 0; all < 10000 * 9; all++) {
            int d = all % week + 1;
            if (can(d)) {
                if (left == 0) {
                    return d;
                }
                left--;
            }
        }
        return NONE;
    }

    public int agree() {
        int working = 0;
        for (int d = 1; d <= week; d++) {
            working += can(d) ? 1 : 0;
        }
        for (int many = 1; many <= 81 && working > 0; many++) {
            if (many % week == 0 && many % working == 0) {
                return many;
            }
        }
        return NONE;
    }

    private static int lowest(int above, int below, int part) {
        for (int d = 2; d <= below; d++) {
            if (above % d == 0 && below % d == 0) {
                return lowest(above / d, below / d, part);
            }
        }
        return part == 0 ? above : below;
    }

    public int odds(int s, int part) {
        if (!in(s, 0, 18) || !in(part, 0, 1)) {
            return BAD;
        }
        int so = 0;
        for (int throwing = 0; throwing < sides * sides; throwing++) {
            int a = throwing / sides + 1;
            int b = throwing % sides + 1;
            so += (can(a) ? a : 0) + (can(b) ? b : 0) == s ? 1 : 0;
        }
        return lowest(so, sides * sides, part);
    }

    public int mean(int part) {
        if (!in(part, 0, 1)) {
            return BAD;
        }
        int all = 0;
        for (int a = 1; a <= sides; a++) {
            all += can(a) ? a : 0;
        }
        return lowest(all, sides, part);
    }

    public int dark(int a, int b) {
        if (!in(a, 0, 9999) || !in(b, 0, 9999) || String.valueOf(a).length() != String.valueOf(b).length()) {
            return BAD;
        }
        if (told.size() == 8) {
            return FULL;
        }
        told.add(new int[] {a, b});
        return told.size();
    }

    public int forget() {
        int were = told.size();
        told.clear();
        return were;
    }

    private boolean allIsSo(IntPredicate strikes) {
        for (int[] pair : told) {
            StringBuilder heard = new StringBuilder();
            for (char c : String.valueOf(pair[0]).toCharArray()) {
                int f = c - '0';
                heard.append(strikes.test(f) ? standIns[f] : f);
            }
            if (!heard.toString().equals(String.valueOf(pair[1]))) {
                return false;
            }
        }
        return true;
    }

    public int works() {
        int bits = allIsSo(strikers::contains) ? 1024 : 0;
        for (int f = 0; f < 10; f++) {
            int works = f;
            bits += allIsSo(g -> g != works && strikers.contains(g)) ? 1 << f : 0;
        }
        return bits;
    }

    private TreeSet<Integer> with(int strikes, int works) {
        TreeSet<Integer> other = new TreeSet<>(strikers);
        other.add(strikes);
        other.remove(works);
        return other;
    }

    public int costs(int f, int n) {
        if (!in(f, 0, 9) || !in(n, 0, 9999)) {
            return BAD;
        }
        return howMany(n, with(f, f)) - howMany(n, strikers);
    }

    public int dearest(int n, int what) {
        if (!in(n, 0, 9999) || !in(what, 0, 1)) {
            return BAD;
        }
        int which = 0;
        for (int f = 9; f >= 0; f--) {
            if (costs(f, n) >= costs(which, n)) {
                which = f;
            }
        }
        return what == 0 ? which : costs(which, n);
    }

    public int bargain(int f, int g, int n) {
        if (!in(f, 0, 9) || !in(g, 0, 9) || f == g || !in(n, 0, 9999)) {
            return BAD;
        }
        return howMany(n, with(g, f)) - howMany(n, with(f, g)) + 10000;
    }

    public int days(int z, int n, int what) {
        if (!in(z, 0, 9999) || !in(n, 1, 50) || !in(what, 0, 1)) {
            return BAD;
        }
        TreeSet<Integer> now = new TreeSet<>(strikers);
        int without = 0;
        for (long d = 0; d < n; d++) {
            long x = 7919L * z + 6151 * d + 1;
            int f = (int) (x * x % 65521 / 4 % 10);
            if (!now.remove(f)) {
                now.add(f);
            }
            without += now.contains(7) ? 1 : 0;
        }
        return what == 0 ? howMany(999, now) : without;
    }

    public int keep() {
        if (kept.size() == 2) {
            return FULL;
        }
        kept.push(new Standing(strikers, standIns).copy());
        return kept.size();
    }

    public int back() {
        if (kept.isEmpty()) {
            return NO;
        }
        Standing was = kept.pop();
        strikers = was.strikers();
        standIns = was.standIns();
        past.clear();
        return kept.size();
    }

    public int count(int what) {
        int[] counts = {strikers.size(), coins.size(), sides, week, told.size(), past.size(), kept.size(),
            text.length()};
        return in(what, 0, 7) ? counts[what] : BAD;
    }
}
