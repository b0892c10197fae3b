import java.math.BigInteger;
import java.util.ArrayDeque;
import java.util.ArrayList;
import java.util.HashMap;
import java.util.List;
import java.util.Map;

/**
 * The document once more, in another way: rows are texts, all orders and chances are gone through
 * one by one, and what is made is looked for breadth first. Slow, and only for tests.
 */
final class Model {
    static final int UNKNOWN = -1, OUTSIDE = -2, STATE = -3, FULL = -4, NO = -5, NONE = -6;
    static final String GUESTS = "ABCDEF";

    /** What an image keeps. A row is a colour's letter, a kind's sign and a width. */
    static final class All {
        int n = 4;
        boolean[] so = new boolean[8];
        int[] tempers = new int[6];
        int width = 20;
        List<String> rows = new ArrayList<>();
        List<int[]> sights = new ArrayList<>();

        All copy() {
            All c = new All();
            c.n = n;
            c.so = so.clone();
            c.tempers = tempers.clone();
            c.width = width;
            c.rows = new ArrayList<>(rows);
            c.sights = new ArrayList<>(sights);
            return c;
        }
    }

    /** What an evening comes to. */
    static final class Tale {
        int stop = NONE;
        int why = NONE;
        int came = 0;
        int went = 0;
        List<String> rows;
        int width;
        String ahead = "";
        List<Integer> heights = new ArrayList<>();
    }

    All all = new All();
    String pad = "";
    All[] images = new All[2];

    static String rowText(char colour, char kind, int width) {
        return "" + colour + kind + width;
    }

    int faultOfEvening() {
        String rest = pad;
        while (!rest.isEmpty()) {
            int place = pad.length() - rest.length();
            char c = rest.charAt(0);
            if (".?!".indexOf(c) >= 0) {
                rest = rest.substring(1);
                continue;
            }
            if (GUESTS.indexOf(c) < 0) {
                return place;
            }
            if (rest.length() == 1) {
                return pad.length();
            }
            if ("abcdefgh".substring(0, all.n).indexOf(rest.charAt(1)) < 0) {
                return place + 1;
            }
            if (rest.length() == 2) {
                return pad.length();
            }
            if ("+-".indexOf(rest.charAt(2)) < 0) {
                return place + 2;
            }
            rest = rest.substring(3);
        }
        return NONE;
    }

    int faultOfPattern() {
        for (int i = 0; i < pad.length(); i++) {
            boolean behindGuest = i > 0 && GUESTS.indexOf(pad.charAt(i - 1)) >= 0;
            boolean fits = (GUESTS + "m").indexOf(pad.charAt(i)) >= 0 || pad.charAt(i) == '*' && behindGuest;
            if (!fits) {
                return i;
            }
        }
        return NONE;
    }

    List<String> remarks() {
        List<String> list = new ArrayList<>();
        for (int i = 0; i < pad.length(); ) {
            int length = GUESTS.indexOf(pad.charAt(i)) >= 0 ? 3 : 1;
            list.add(pad.substring(i, i + length));
            i += length;
        }
        return list;
    }

    List<String> patternRows() {
        List<String> list = new ArrayList<>();
        for (char c : pad.toCharArray()) {
            if (c == '*') {
                list.set(list.size() - 1, list.get(list.size() - 1).charAt(0) + "*");
            } else {
                list.add(c == 'm' ? "m~" : c + "=");
            }
        }
        return list;
    }

    static boolean isLie(String remark, boolean[] so) {
        return remark.length() == 3 && so[remark.charAt(1) - 'a'] != (remark.charAt(2) == '+');
    }

    Tale begin() {
        Tale t = new Tale();
        t.rows = new ArrayList<>(all.rows);
        t.width = all.width;
        t.heights.add(t.rows.size());
        return t;
    }

    int whyNot(Tale t, String remark, boolean[] so) {
        boolean lie = isLie(remark, so);
        boolean adds = lie || remark.equals(".");
        if (remark.length() == 3) {
            int temper = all.tempers[remark.charAt(0) - 'A'];
            if (temper == 1 && lie || temper == 2 && !lie) {
                return 1;
            }
        }
        if (adds && t.rows.size() == 30) {
            return 2;
        }
        return t.width == 0 && (adds || remark.equals("?")) ? 3 : 0;
    }

    void hear(Tale t, String remark, boolean[] so) {
        int before = t.rows.size();
        String liar = "";
        if (remark.equals("?")) {
            t.width--;
        } else if (remark.equals(".")) {
            t.rows.add(rowText('m', '~', t.width));
        } else if (remark.equals("!")) {
            char colour = before == 0 ? ' ' : t.rows.get(before - 1).charAt(0);
            while (!t.rows.isEmpty() && t.rows.get(t.rows.size() - 1).charAt(0) == colour) {
                t.rows.remove(t.rows.size() - 1);
            }
        } else if (isLie(remark, so)) {
            liar = remark.substring(0, 1);
            t.rows.add(rowText(remark.charAt(0), t.ahead.equals(liar) ? '*' : '=', t.width));
        } else if (before > 0) {
            t.rows.remove(before - 1);
        }
        t.ahead = liar;
        t.came += Math.max(0, t.rows.size() - before);
        t.went += Math.max(0, before - t.rows.size());
        t.heights.add(t.rows.size());
    }

    Tale play(boolean[] so) {
        Tale t = begin();
        List<String> list = remarks();
        for (int i = 0; i < list.size(); i++) {
            t.why = whyNot(t, list.get(i), so);
            if (t.why != 0) {
                t.stop = i;
                return t;
            }
            hear(t, list.get(i), so);
        }
        t.why = NONE;
        return t;
    }

    int refusal() {
        if (faultOfEvening() != NONE) {
            return NO;
        }
        return play(all.so).stop == NONE ? 0 : STATE;
    }

    static int part(String row, int what) {
        if (what == 0) {
            return "ABCDEFm".indexOf(row.charAt(0));
        }
        return what == 1 ? "=*~".indexOf(row.charAt(1)) : Integer.parseInt(row.substring(2));
    }

    static int bits(boolean[] so) {
        int bits = 0;
        for (int i = 0; i < so.length; i++) {
            bits += so[i] ? 1 << i : 0;
        }
        return bits;
    }

    static boolean[] setOf(int bits) {
        boolean[] so = new boolean[8];
        for (int i = 0; i < 8; i++) {
            so[i] = (bits >> i & 1) == 1;
        }
        return so;
    }

    // ---- the calls

    int facts(int n) {
        if (n < 1 || n > 8) {
            return OUTSIDE;
        }
        int was = all.n;
        all = new All();
        all.n = n;
        return was;
    }

    int fact(int fact, boolean is) {
        if (fact < 0 || fact >= all.n) {
            return UNKNOWN;
        }
        all.so[fact] = is;
        return bits(all.so);
    }

    int temper(int guest, int v) {
        if (guest < 0 || guest > 5) {
            return UNKNOWN;
        }
        if (v < 0 || v > 2) {
            return OUTSIDE;
        }
        int was = all.tempers[guest];
        all.tempers[guest] = v;
        return was;
    }

    int width(int v) {
        if (v < 0 || v > 40) {
            return OUTSIDE;
        }
        int was = all.width;
        all.width = v;
        return was;
    }

    int say(int sign) {
        if (sign < 33 || sign > 126) {
            return OUTSIDE;
        }
        if (pad.length() == 60) {
            return FULL;
        }
        pad += (char) sign;
        return pad.length();
    }

    int wipe() {
        int was = pad.length();
        pad = "";
        return was;
    }

    int fault(int how) {
        if (how != 0 && how != 1) {
            return OUTSIDE;
        }
        return how == 0 ? faultOfEvening() : faultOfPattern();
    }

    int judge(int what) {
        if (what < 0 || what > 3) {
            return OUTSIDE;
        }
        if (faultOfEvening() != NONE) {
            return NO;
        }
        Tale t = play(all.so);
        if (what < 2) {
            return what == 0 ? t.stop : t.why;
        }
        if (t.stop != NONE) {
            return STATE;
        }
        return what == 2 ? t.came : t.went;
    }

    int behind(int what) {
        if (what < 0 || what > 3) {
            return OUTSIDE;
        }
        if (refusal() != 0) {
            return refusal();
        }
        Tale t = play(all.so);
        switch (what) {
            case 0:
                return t.rows.size();
            case 1:
                return t.width;
            case 2:
                return t.heights.stream().min(Integer::compare).get();
            default:
                return t.heights.stream().max(Integer::compare).get();
        }
    }

    int row(int row, int what) {
        if (what < 0 || what > 2) {
            return OUTSIDE;
        }
        if (refusal() != 0) {
            return refusal();
        }
        List<String> rows = play(all.so).rows;
        return row < 0 || row >= rows.size() ? UNKNOWN : part(rows.get(row), what);
    }

    int lost(int row) {
        if (row < 0 || row >= all.rows.size()) {
            return UNKNOWN;
        }
        if (refusal() != 0) {
            return refusal();
        }
        List<Integer> heights = play(all.so).heights;
        for (int i = 1; i < heights.size(); i++) {
            if (heights.get(i) <= row) {
                return i - 1;
            }
        }
        return NONE;
    }

    int done() {
        if (refusal() != 0) {
            return refusal();
        }
        Tale t = play(all.so);
        int many = remarks().size();
        all.rows = t.rows;
        all.width = t.width;
        pad = "";
        return many;
    }

    int state(int row, int what) {
        if (row < 0 || row >= all.rows.size()) {
            return UNKNOWN;
        }
        return what < 0 || what > 2 ? OUTSIDE : part(all.rows.get(row), what);
    }

    int seen(int remarks, int rows) {
        if (remarks < 0 || remarks > 60 || rows < 0 || rows > 30) {
            return OUTSIDE;
        }
        if (all.sights.size() == 8) {
            return FULL;
        }
        all.sights.add(new int[] {remarks, rows});
        return all.sights.size();
    }

    int forget() {
        int was = all.sights.size();
        all.sights.clear();
        return was;
    }

    List<Integer> fitting() {
        List<Integer> list = new ArrayList<>();
        for (int bits = 0; bits < 1 << all.n; bits++) {
            Tale t = play(setOf(bits));
            boolean fits = t.stop == NONE;
            for (int[] sight : all.sights) {
                fits = fits && sight[0] < t.heights.size() && t.heights.get(sight[0]) == sight[1];
            }
            if (fits) {
                list.add(bits);
            }
        }
        return list;
    }

    int worlds(int what) {
        if (what < 0 || what > 3) {
            return OUTSIDE;
        }
        if (faultOfEvening() != NONE) {
            return NO;
        }
        List<Integer> list = fitting();
        switch (what) {
            case 0:
                return list.size();
            case 1:
                return list.isEmpty() ? NONE : list.get(0);
            case 2:
                return list.stream().reduce((a, b) -> a & b).orElse(0);
            default:
                return list.stream().reduce((a, b) -> a | b).orElse(0);
        }
    }

    int tell(int what) {
        if (what < 0 || what > 1) {
            return OUTSIDE;
        }
        if (faultOfEvening() != NONE) {
            return NO;
        }
        List<Integer> list = fitting();
        if (list.isEmpty()) {
            return NONE;
        }
        int best = -1;
        int bestLeft = 257;
        for (int fact = 0; fact < all.n; fact++) {
            int bit = 1 << fact;
            int so = (int) list.stream().filter(world -> (world & bit) != 0).count();
            int left = Math.max(so, list.size() - so);
            if (left < bestLeft) {
                best = fact;
                bestLeft = left;
            }
        }
        return what == 0 ? best : bestLeft;
    }

    int says(int guest) {
        if (guest < 0 || guest > 5) {
            return UNKNOWN;
        }
        if (faultOfEvening() != NONE) {
            return NO;
        }
        boolean so = false;
        boolean not = false;
        for (String remark : remarks()) {
            if (remark.length() == 3 && remark.charAt(0) == GUESTS.charAt(guest)) {
                not |= isLie(remark, all.so);
                so |= !isLie(remark, all.so);
            }
        }
        return (so ? 1 : 0) + (not ? 2 : 0);
    }

    /** By all orders of so many remarks: how many leave so many rows; the index is the rows. */
    static long[] orders(int a, int b, int r) {
        long[] many = new long[200];
        for (int bits = 0; bits < 1 << (a + b); bits++) {
            if (Integer.bitCount(bits) != a) {
                continue;
            }
            int rows = r;
            for (int i = 0; i < a + b; i++) {
                rows = (bits >> i & 1) == 1 ? Math.max(0, rows - 1) : rows + 1;
            }
            many[rows]++;
        }
        return many;
    }

    /** The share of ten to the m that leaves so many rows; the index is the rows. */
    static BigInteger[] shares(int from, int m, int t) {
        BigInteger[] shares = new BigInteger[200];
        java.util.Arrays.fill(shares, BigInteger.ZERO);
        for (int bits = 0; bits < 1 << m; bits++) {
            int rows = from;
            BigInteger share = BigInteger.ONE;
            for (int i = 0; i < m; i++) {
                boolean so = (bits >> i & 1) == 1;
                rows = so ? Math.max(0, rows - 1) : rows + 1;
                share = share.multiply(BigInteger.valueOf(so ? t : 10 - t));
            }
            shares[rows] = shares[rows].add(share);
        }
        return shares;
    }

    static BigInteger sum(BigInteger[] shares, int k) {
        BigInteger sum = BigInteger.ZERO;
        for (int rows = 0; rows < shares.length; rows++) {
            if (k < 0) {
                sum = sum.add(shares[rows].multiply(BigInteger.valueOf(rows)));
            } else if (rows >= k) {
                sum = sum.add(shares[rows]);
            }
        }
        return sum;
    }

    long chance(int m, int t, int k, int part) {
        BigInteger upper = sum(shares(all.rows.size(), m, t), k);
        BigInteger lower = BigInteger.TEN.pow(m);
        BigInteger shared = upper.gcd(lower);
        return (part == 0 ? upper : lower).divide(shared).longValueExact();
    }

    int over(int m, int t, int k, int a, int b) {
        for (int lies = 0; lies <= 40; lies++) {
            BigInteger upper = sum(shares(all.rows.size() + lies, m, t), k);
            BigInteger wanted = BigInteger.TEN.pow(m).multiply(BigInteger.valueOf(a));
            if (upper.multiply(BigInteger.valueOf(b)).compareTo(wanted) >= 0) {
                return lies;
            }
        }
        return NONE;
    }

    int draws(int seed, int m, int what) {
        Tale t = begin();
        long x = seed;
        for (int i = 0; i < m; i++) {
            x = (75 * x + 74) % 65537;
            int kind = (int) (x % 8);
            String remark = kind < 3 ? ".?!".substring(kind, kind + 1)
                    : "" + GUESTS.charAt((int) (x / 8 % 6)) + (char) ('a' + x / 48 % all.n) + (x / 480 % 2 == 1 ? '+' : '-');
            if (whyNot(t, remark, all.so) == 0) {
                hear(t, remark, all.so);
            }
        }
        return what == 0 ? t.rows.size() : what == 1 ? t.came : t.width;
    }

    int image(int k) {
        if (k < 0 || k > 1) {
            return OUTSIDE;
        }
        images[k] = all.copy();
        return 1;
    }

    int restore(int k) {
        if (k < 0 || k > 1) {
            return OUTSIDE;
        }
        if (images[k] == null) {
            return STATE;
        }
        all = images[k].copy();
        return 1;
    }

    int told(int what) {
        switch (what) {
            case 0:
                return pad.length();
            case 1:
                return all.n;
            case 2:
                return bits(all.so);
            case 3:
                return all.rows.size();
            case 4:
                return all.width;
            case 5:
                return all.sights.size();
            default:
                return what >= 10 && what <= 15 ? all.tempers[what - 10] : OUTSIDE;
        }
    }

    // ---- made, breadth first

    /** A row as one sign: a to f and A to F for plain and cable, m for moss. */
    private static String shape(List<String> rows) {
        StringBuilder text = new StringBuilder();
        for (String row : rows) {
            char c = row.charAt(0);
            text.append(row.charAt(1) == '=' ? Character.toLowerCase(c) : c);
        }
        return text.toString();
    }

    /**
     * The fewest remarks that make the lowest rows of the pattern, found by trying all, none of
     * them above so many rows. Only the first few guests speak: the rest must be like the last
     * of them, in temper and in being neither in rows nor in the pattern.
     */
    int made(int rows, int guests, int highest) {
        String from = shape(all.rows);
        String to = shape(patternRows().subList(0, rows));
        boolean canTell = false;
        for (int temper : all.tempers) {
            canTell |= temper != 2;
        }
        Map<String, Integer> steps = new HashMap<>();
        ArrayDeque<String> next = new ArrayDeque<>();
        String start = (char) (all.width + '0') + " " + from;
        steps.put(start, 0);
        next.add(start);
        while (!next.isEmpty()) {
            String here = next.remove();
            if (here.substring(2).equals(to)) {
                return steps.get(here);
            }
            for (String there : follow(here, guests, highest, canTell)) {
                if (steps.putIfAbsent(there, steps.get(here) + 1) == null) {
                    next.add(there);
                }
            }
        }
        return NONE;
    }

    private List<String> follow(String here, int guests, int highest, boolean canTell) {
        List<String> list = new ArrayList<>();
        int width = here.charAt(0) - '0';
        char liar = here.charAt(1);
        String rows = here.substring(2);
        int top = rows.length() - 1;
        if (width > 0) {
            list.add((char) (width - 1 + '0') + " " + rows);
        }
        if (width > 0 && rows.length() < highest) {
            list.add(here.charAt(0) + " " + rows + "m");
            for (int guest = 0; guest < guests; guest++) {
                char letter = GUESTS.charAt(guest);
                if (all.tempers[guest] != 1) {
                    list.add("" + here.charAt(0) + letter + rows + (liar == letter ? letter : Character.toLowerCase(letter)));
                }
            }
        }
        if (canTell) {
            list.add(here.charAt(0) + " " + (top < 0 ? rows : rows.substring(0, top)));
        }
        int bottom = top;
        while (bottom > 0 && Character.toLowerCase(rows.charAt(bottom - 1)) == Character.toLowerCase(rows.charAt(top))) {
            bottom--;
        }
        list.add(here.charAt(0) + " " + (top < 0 ? rows : rows.substring(0, bottom)));
        return list;
    }
}
