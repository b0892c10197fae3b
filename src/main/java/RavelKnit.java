/**
 * She knits in company: for each thing said that is so a row goes, for each that is not one comes.
 *
 * <p>Every array is made with its object and used again, so that no call makes anything new.
 */
public final class RavelKnit {
    public static final int UNKNOWN = -1, OUTSIDE = -2, STATE = -3, FULL = -4, NO = -5, NONE = -6;
    public static final long GONE = -1000000000000000000L;

    private static final int GUESTS = 6;
    private static final int MOSS = 6;
    private static final int PLAIN = 0, CABLE = 1, MOSSY = 2;
    private static final int ANYTHING = 0, ONLY_SO = 1, ONLY_NOT = 2;

    private static final int FIRST_FACTS = 4, MOST_FACTS = 8;
    private static final int FIRST_WIDTH = 20, MOST_WIDTH = 40;
    private static final int MOST_ROWS = 30;
    private static final int MOST_SIGNS = 60, FIRST_SIGN = 33, LAST_SIGN = 126;
    private static final int MOST_SIGHTS = 8;
    private static final int IMAGES = 2;

    private static final int MOST_OF_A_KIND = 12;
    private static final int MOST_REMARKS = 12, TENTHS = 10;
    private static final int MOST_LEFT = 50;
    private static final int MOST_AHEAD = 40;
    private static final int MOST_PARTS = 100;
    private static final int MOST_PATTERN = 8;
    private static final int MOST_SEED = 9999, MOST_DRAWS = 99;

    // A remark is one number: what a guest says lies below SILENCE, see spoken().
    private static final int SILENCE = 100, TIME = 101, CHILD = 102;
    private static final int BY_TEMPER = 1, BY_ROWS = 2, BY_WIDTH = 3;
    private static final int NOBODY = -1;

    private static final int FIRST_TEMPER_TOLD = 10;

    private final Company now = new Company();
    private final Company imageZero = new Company();
    private final Company imageOne = new Company();
    private final Pad pad = new Pad();
    private final Evening evening = new Evening();
    private final Pattern pattern = new Pattern();
    private final Survey survey = new Survey();
    private final Orders orderTable = new Orders();
    private final Odds odds = new Odds();

    public RavelKnit() {
    }

    // ---- 1 facts, guests

    public int facts(int n) {
        if (!isWithin(n, 1, MOST_FACTS)) {
            return OUTSIDE;
        }
        int before = now.factCount;
        now.restart(n);
        return before;
    }

    public int fact(int fact, boolean is) {
        if (!isWithin(fact, 0, now.factCount - 1)) {
            return UNKNOWN;
        }
        int bit = 1 << fact;
        now.soBits = is ? now.soBits | bit : now.soBits & ~bit;
        return now.soBits;
    }

    public int temper(int guest, int v) {
        if (!isGuest(guest)) {
            return UNKNOWN;
        }
        if (!isWithin(v, ANYTHING, ONLY_NOT)) {
            return OUTSIDE;
        }
        int before = now.temperOf(guest);
        put(now.tempers, guest, v);
        return before;
    }

    public int width(int v) {
        if (!isWithin(v, 0, MOST_WIDTH)) {
            return OUTSIDE;
        }
        int before = now.needles.width;
        now.needles.width = v;
        return before;
    }

    public int say(int sign) {
        if (!isWithin(sign, FIRST_SIGN, LAST_SIGN)) {
            return OUTSIDE;
        }
        return pad.add(sign);
    }

    public int wipe() {
        int before = pad.count;
        pad.count = 0;
        return before;
    }

    public int fault(int how) {
        if (!isWithin(how, 0, 1)) {
            return OUTSIDE;
        }
        return how == 0 ? evening.read(pad, now.factCount) : pattern.read(pad);
    }

    // ---- 2 evenings

    public int judge(int what) {
        if (!isWithin(what, 0, 3)) {
            return OUTSIDE;
        }
        int refusal = playPad();
        if (refusal == NO || refusal == STATE && what >= 2) {
            return refusal;
        }
        switch (what) {
            case 0:
                return evening.stop;
            case 1:
                return evening.why;
            case 2:
                return evening.needles.came;
            default:
                return evening.needles.went;
        }
    }

    public int behind(int what) {
        if (!isWithin(what, 0, 3)) {
            return OUTSIDE;
        }
        int refusal = playPad();
        if (refusal != 0) {
            return refusal;
        }
        switch (what) {
            case 0:
                return evening.needles.count;
            case 1:
                return evening.needles.width;
            case 2:
                return evening.lowest();
            default:
                return evening.highest();
        }
    }

    public int row(int row, int what) {
        if (!isWithin(what, 0, 2)) {
            return OUTSIDE;
        }
        int refusal = playPad();
        if (refusal != 0) {
            return refusal;
        }
        return evening.needles.has(row) ? evening.needles.tellRow(row, what) : UNKNOWN;
    }

    public int lost(int row) {
        if (!now.needles.has(row)) {
            return UNKNOWN;
        }
        int refusal = playPad();
        return refusal != 0 ? refusal : evening.remarkTaking(row);
    }

    public int done() {
        int refusal = playPad();
        if (refusal != 0) {
            return refusal;
        }
        now.needles.copyFrom(evening.needles);
        pad.count = 0;
        return evening.count;
    }

    public int state(int row, int what) {
        if (!now.needles.has(row)) {
            return UNKNOWN;
        }
        return isWithin(what, 0, 2) ? now.needles.tellRow(row, what) : OUTSIDE;
    }

    // ---- 3 patterns, worlds

    public int made() {
        int refusal = readPattern();
        return refusal != 0 ? refusal : fewestRemarks(pattern.count);
    }

    public int bars() {
        int refusal = readPattern();
        if (refusal != 0) {
            return refusal;
        }
        for (int k = 0; k < pattern.count; k++) {
            if (fewestRemarks(k + 1) == NONE) {
                return k;
            }
        }
        return NONE;
    }

    public int seen(int remarks, int rows) {
        if (!isWithin(remarks, 0, MOST_SIGNS) || !isWithin(rows, 0, MOST_ROWS)) {
            return OUTSIDE;
        }
        return now.addSight(remarks, rows);
    }

    public int forget() {
        int before = now.sightCount;
        now.sightCount = 0;
        return before;
    }

    public int worlds(int what) {
        if (!isWithin(what, 0, 3)) {
            return OUTSIDE;
        }
        if (!surveyWorlds()) {
            return NO;
        }
        switch (what) {
            case 0:
                return survey.count;
            case 1:
                return survey.least;
            case 2:
                return survey.inAll;
            default:
                return survey.inSome;
        }
    }

    public int tell(int what) {
        if (!isWithin(what, 0, 1)) {
            return OUTSIDE;
        }
        if (!surveyWorlds()) {
            return NO;
        }
        if (survey.count == 0) {
            return NONE;
        }
        int best = survey.bestFact(now.factCount);
        return what == 0 ? best : survey.leftAtMost(best);
    }

    public int says(int guest) {
        if (!isGuest(guest)) {
            return UNKNOWN;
        }
        if (evening.read(pad, now.factCount) != NONE) {
            return NO;
        }
        return evening.habitOf(guest, now.soBits);
    }

    // ---- 4 orders, chance

    public long orders(int a, int b, int r, int k) {
        if (!areOrders(a, b, r) || !isWithin(k, 0, MOST_LEFT)) {
            return GONE + OUTSIDE;
        }
        return orderTable.ending(a, b, r, k);
    }

    public int left(int a, int b, int r, int what) {
        if (!areOrders(a, b, r) || !isWithin(what, 0, 1)) {
            return OUTSIDE;
        }
        // Lies ahead feed the true ones; true ones ahead are wasted on no rows.
        return what == 0 ? Math.max(0, r + b - a) : Math.max(0, r - a) + b;
    }

    public long chance(int m, int t, int k, int part) {
        if (!areChances(m, t) || !isWithin(k, -1, MOST_LEFT) || !isWithin(part, 0, 1)) {
            return GONE + OUTSIDE;
        }
        odds.play(now.needles.count, m, t);
        long upper = k < 0 ? odds.sumOfRows() : odds.atLeast(k);
        long lower = powerOfTen(m);
        long shared = greatestDivisor(upper, lower);
        if (shared < 1) {
            shared = 1;
        }
        return (part == 0 ? upper : lower) / shared;
    }

    public int over(int m, int t, int k, int a, int b) {
        if (!areChances(m, t) || !isWithin(k, 0, MOST_LEFT)) {
            return OUTSIDE;
        }
        if (!isWithin(b, 1, MOST_PARTS) || !isWithin(a, 0, b)) {
            return OUTSIDE;
        }
        long wanted = a * powerOfTen(m);
        for (int lies = 0; lies <= MOST_AHEAD; lies++) {
            odds.play(now.needles.count + lies, m, t);
            if (odds.atLeast(k) * b >= wanted) {
                return lies;
            }
        }
        return NONE;
    }

    public int patterns(int k) {
        if (!isWithin(k, 0, MOST_PATTERN)) {
            return OUTSIDE;
        }
        int liars = now.countWithout(ONLY_SO);
        // The empty pattern bears no cable, as one that ends in moss does not.
        int endingInMoss = 1;
        int endingInGuest = 0;
        for (int rows = 0; rows < k; rows++) {
            int all = endingInMoss + endingInGuest;
            endingInGuest = all * liars + endingInGuest;
            endingInMoss = all;
        }
        return endingInMoss + endingInGuest;
    }

    public int draws(int seed, int m, int what) {
        if (!isWithin(seed, 0, MOST_SEED) || !isWithin(m, 1, MOST_DRAWS) || !isWithin(what, 0, 2)) {
            return OUTSIDE;
        }
        Needles needles = evening.needles;
        needles.copyFrom(now.needles);
        int x = seed;
        for (int i = 0; i < m; i++) {
            x = (75 * x + 74) % 65537;
            int remark = drawnRemark(x, now.factCount);
            if (whyNot(remark, now, now.soBits, needles) == 0) {
                needles.hear(remark, now.soBits);
            }
        }
        switch (what) {
            case 0:
                return needles.count;
            case 1:
                return needles.came;
            default:
                return needles.width;
        }
    }

    public int image(int k) {
        if (!isWithin(k, 0, IMAGES - 1)) {
            return OUTSIDE;
        }
        Company kept = imageAt(k);
        kept.copyFrom(now);
        kept.isKept = true;
        return 1;
    }

    public int restore(int k) {
        if (!isWithin(k, 0, IMAGES - 1)) {
            return OUTSIDE;
        }
        Company kept = imageAt(k);
        if (!kept.isKept) {
            return STATE;
        }
        now.copyFrom(kept);
        return 1;
    }

    public int told(int what) {
        switch (what) {
            case 0:
                return pad.count;
            case 1:
                return now.factCount;
            case 2:
                return now.soBits;
            case 3:
                return now.needles.count;
            case 4:
                return now.needles.width;
            case 5:
                return now.sightCount;
            default:
                break;
        }
        if (!isWithin(what, FIRST_TEMPER_TOLD, FIRST_TEMPER_TOLD + GUESTS - 1)) {
            return OUTSIDE;
        }
        return now.temperOf(what - FIRST_TEMPER_TOLD);
    }

    // ---- evenings and patterns on the pad

    /** Plays the evening on the pad from now on: NO, STATE, or 0 if all of it can be. */
    private int playPad() {
        if (evening.read(pad, now.factCount) != NONE) {
            return NO;
        }
        evening.play(now, now.soBits);
        return evening.stop == NONE ? 0 : STATE;
    }

    private int readPattern() {
        if (pattern.read(pad) != NONE) {
            return NO;
        }
        return pattern.count > MOST_ROWS ? FULL : 0;
    }

    private Company imageAt(int k) {
        return k == 0 ? imageZero : imageOne;
    }

    private boolean surveyWorlds() {
        if (evening.read(pad, now.factCount) != NONE) {
            return false;
        }
        survey.clear();
        int sets = 1 << now.factCount;
        for (int world = 0; world < sets; world++) {
            evening.play(now, world);
            if (evening.stop == NONE && now.sightsFit(evening)) {
                survey.add(world);
            }
        }
        return true;
    }

    // ---- the fewest remarks

    /**
     * The fewest remarks by which the lowest rows of the pattern, alone, are made. Rows that stay
     * all the while are the lowest of both; all else goes first, for what comes and goes on the
     * way there only costs.
     */
    private int fewestRemarks(int rows) {
        int best = NONE;
        for (int keep = 0; keep <= rows && keep <= now.needles.count; keep++) {
            if (keep > 0 && !isThereAlready(keep - 1)) {
                break;
            }
            int down = remarksDownTo(keep);
            int up = remarksUpTo(rows, keep);
            if (down != NONE && up != NONE && (best == NONE || down + up < best)) {
                best = down + up;
            }
        }
        return best;
    }

    private boolean isThereAlready(int row) {
        return now.needles.colourAt(row) == at(pattern.colours, row)
                && now.needles.kindAt(row) == at(pattern.kinds, row);
    }

    /** A child takes all rows of one colour at once; a colour of which some stay needs true words. */
    private int remarksDownTo(int keep) {
        boolean isHalved = keep > 0;
        int trueWords = 0;
        int children = 0;
        for (int row = keep; row < now.needles.count; row++) {
            if (row == 0 || now.needles.colourAt(row) != now.needles.colourAt(row - 1)) {
                isHalved = false;
                children++;
            } else if (isHalved) {
                trueWords++;
            }
        }
        if (trueWords > 0 && now.countWithout(ONLY_NOT) == 0) {
            return NONE;
        }
        return trueWords + children;
    }

    private int remarksUpTo(int rows, int keep) {
        if (keep >= rows) {
            return 0;
        }
        if (now.needles.width < 1) {
            return NONE;
        }
        int pauses = 0;
        for (int row = keep; row < rows; row++) {
            int colour = at(pattern.colours, row);
            boolean isOnItsOwn = row > keep && at(pattern.colours, row - 1) == colour;
            if (isGuest(colour) && now.temperOf(colour) == ONLY_SO) {
                return NONE;
            }
            if (at(pattern.kinds, row) == CABLE && !isOnItsOwn) {
                return NONE;
            }
            if (at(pattern.kinds, row) == PLAIN && isOnItsOwn) {
                pauses++;
            }
        }
        // A pause is the time, while a stitch can be spared, else moss that comes and goes again.
        int byTime = Math.min(pauses, now.needles.width - 1);
        return rows - keep + byTime + 2 * (pauses - byTime);
    }

    // ---- remarks

    private static int spoken(int guest, int fact, boolean is) {
        return guest * 16 + fact * 2 + (is ? 1 : 0);
    }

    private static boolean isSpoken(int remark) {
        return remark >= 0 && remark < SILENCE;
    }

    private static int guestOf(int remark) {
        return remark / 16;
    }

    private static boolean isTrue(int remark, int soBits) {
        int fact = remark / 2 % MOST_FACTS;
        return (soBits >> fact & 1) == remark % 2;
    }

    private static int drawnRemark(int x, int factCount) {
        switch (x % 8) {
            case 0:
                return SILENCE;
            case 1:
                return TIME;
            case 2:
                return CHILD;
            default:
                break;
        }
        int fact = factCount > 0 ? x / 48 % factCount : 0;
        return spoken(x / 8 % GUESTS, fact, x / 480 % 2 == 1);
    }

    /** The least reason for which a remark can not be; 0 if it can. */
    private static int whyNot(int remark, Company company, int soBits, Needles needles) {
        boolean isLie = false;
        if (isSpoken(remark)) {
            isLie = !isTrue(remark, soBits);
            if (company.temperOf(guestOf(remark)) == (isLie ? ONLY_SO : ONLY_NOT)) {
                return BY_TEMPER;
            }
        }
        boolean brings = isLie || remark == SILENCE;
        if (brings && needles.count >= MOST_ROWS) {
            return BY_ROWS;
        }
        if ((brings || remark == TIME) && needles.width < 1) {
            return BY_WIDTH;
        }
        return 0;
    }

    // ---- numbers

    private static boolean isWithin(int v, int least, int most) {
        return v >= least && v <= most;
    }

    private static boolean isGuest(int v) {
        return isWithin(v, 0, GUESTS - 1);
    }

    private static boolean areOrders(int a, int b, int r) {
        return isWithin(a, 0, MOST_OF_A_KIND) && isWithin(b, 0, MOST_OF_A_KIND) && isWithin(r, 0, MOST_ROWS);
    }

    private static boolean areChances(int m, int t) {
        return isWithin(m, 0, MOST_REMARKS) && isWithin(t, 0, TENTHS);
    }

    private static long powerOfTen(int m) {
        long power = 1;
        for (int i = 0; i < m && i < MOST_REMARKS; i++) {
            power *= 10;
        }
        return power;
    }

    private static long greatestDivisor(long a, long b) {
        long x = a;
        long y = b;
        // Euclid's steps on two longs stay far below this.
        for (int step = 0; step < 200 && y != 0; step++) {
            long rest = x % y;
            x = y;
            y = rest;
        }
        return x;
    }

    // ---- rows of numbers, each index looked at

    private static int at(int[] list, int i) {
        return i >= 0 && i < list.length ? list[i] : NONE;
    }

    private static void put(int[] list, int i, int v) {
        if (i >= 0 && i < list.length) {
            list[i] = v;
        }
    }

    private static long at(long[] list, int i) {
        return i >= 0 && i < list.length ? list[i] : 0;
    }

    private static void put(long[] list, int i, long v) {
        if (i >= 0 && i < list.length) {
            list[i] = v;
        }
    }

    private static void copyAll(int[] from, int[] to) {
        System.arraycopy(from, 0, to, 0, Math.min(from.length, to.length));
    }

    /** The rows, the width, and what the remarks of one evening have done to them. */
    private static final class Needles {
        final int[] colours = new int[MOST_ROWS];
        final int[] kinds = new int[MOST_ROWS];
        final int[] widths = new int[MOST_ROWS];
        int count = 0;
        int width = FIRST_WIDTH;
        int came = 0;
        int went = 0;
        int liar = NOBODY;

        void restart() {
            count = 0;
            width = FIRST_WIDTH;
        }

        /** The rows and the width alone: an evening begins anew with them. */
        void copyFrom(Needles other) {
            copyAll(other.colours, colours);
            copyAll(other.kinds, kinds);
            copyAll(other.widths, widths);
            count = other.count;
            width = other.width;
            came = 0;
            went = 0;
            liar = NOBODY;
        }

        boolean has(int row) {
            return row >= 0 && row < count;
        }

        int colourAt(int row) {
            return at(colours, row);
        }

        int kindAt(int row) {
            return at(kinds, row);
        }

        int tellRow(int row, int what) {
            if (what == 0) {
                return colourAt(row);
            }
            return what == 1 ? kindAt(row) : at(widths, row);
        }

        /** What a remark that can be does. */
        void hear(int remark, int soBits) {
            int liarAhead = liar;
            liar = NOBODY;
            if (remark == TIME) {
                width--;
            } else if (remark == CHILD) {
                dropColour();
            } else if (remark == SILENCE) {
                lay(MOSS, MOSSY);
            } else if (isTrue(remark, soBits)) {
                dropTop();
            } else {
                liar = guestOf(remark);
                lay(liar, liar == liarAhead ? CABLE : PLAIN);
            }
        }

        private void lay(int colour, int kind) {
            put(colours, count, colour);
            put(kinds, count, kind);
            put(widths, count, width);
            count++;
            came++;
        }

        private void dropTop() {
            if (count > 0) {
                count--;
                went++;
            }
        }

        private void dropColour() {
            int colour = colourAt(count - 1);
            for (int row = count - 1; row >= 0 && colourAt(row) == colour; row--) {
                dropTop();
            }
        }
    }

    /** All that an image keeps. */
    private static final class Company {
        int factCount = FIRST_FACTS;
        int soBits = 0;
        final int[] tempers = new int[GUESTS];
        final Needles needles = new Needles();
        int sightCount = 0;
        final int[] sightRemarks = new int[MOST_SIGHTS];
        final int[] sightRows = new int[MOST_SIGHTS];
        boolean isKept = false;

        void restart(int n) {
            factCount = n;
            soBits = 0;
            for (int guest = 0; guest < GUESTS; guest++) {
                put(tempers, guest, ANYTHING);
            }
            needles.restart();
            sightCount = 0;
        }

        void copyFrom(Company other) {
            factCount = other.factCount;
            soBits = other.soBits;
            copyAll(other.tempers, tempers);
            needles.copyFrom(other.needles);
            sightCount = other.sightCount;
            copyAll(other.sightRemarks, sightRemarks);
            copyAll(other.sightRows, sightRows);
        }

        int temperOf(int guest) {
            return at(tempers, guest);
        }

        int countWithout(int v) {
            int others = 0;
            for (int guest = 0; guest < GUESTS; guest++) {
                if (temperOf(guest) != v) {
                    others++;
                }
            }
            return others;
        }

        int addSight(int remarks, int rows) {
            if (sightCount >= MOST_SIGHTS) {
                return FULL;
            }
            put(sightRemarks, sightCount, remarks);
            put(sightRows, sightCount, rows);
            sightCount++;
            return sightCount;
        }

        boolean sightsFit(Evening evening) {
            for (int i = 0; i < sightCount; i++) {
                int remarks = at(sightRemarks, i);
                if (remarks > evening.count || at(evening.heights, remarks) != at(sightRows, i)) {
                    return false;
                }
            }
            return true;
        }
    }

    /** The signs that are said. */
    private static final class Pad {
        final int[] signs = new int[MOST_SIGNS];
        int count = 0;

        int add(int sign) {
            if (count >= MOST_SIGNS) {
                return FULL;
            }
            put(signs, count, sign);
            count++;
            return count;
        }
    }

    /** The pad as an evening: its remarks, and how they go. */
    private static final class Evening {
        private static final int ANY = 0, FACT = 1, CLAIM = 2;

        final int[] remarks = new int[MOST_SIGNS];
        int count = 0;
        /** How many rows there are behind so many remarks. */
        final int[] heights = new int[MOST_SIGNS + 1];
        final Needles needles = new Needles();
        int stop = NONE;
        int why = NONE;

        /** Tells the fault, NONE if there is none: then the remarks are there. */
        int read(Pad pad, int factCount) {
            count = 0;
            int part = ANY;
            int guest = 0;
            int fact = 0;
            for (int place = 0; place < pad.count; place++) {
                int sign = at(pad.signs, place);
                if (part == ANY && isGuest(sign - 'A')) {
                    guest = sign - 'A';
                    part = FACT;
                } else if (part == ANY && unspoken(sign) != NONE) {
                    add(unspoken(sign));
                } else if (part == FACT && isWithin(sign - 'a', 0, factCount - 1)) {
                    fact = sign - 'a';
                    part = CLAIM;
                } else if (part == CLAIM && (sign == '+' || sign == '-')) {
                    add(spoken(guest, fact, sign == '+'));
                    part = ANY;
                } else {
                    return place;
                }
            }
            return part == ANY ? NONE : pad.count;
        }

        private static int unspoken(int sign) {
            switch (sign) {
                case '.':
                    return SILENCE;
                case '?':
                    return TIME;
                case '!':
                    return CHILD;
                default:
                    return NONE;
            }
        }

        private void add(int remark) {
            put(remarks, count, remark);
            count++;
        }

        /** Plays what was read, up to the first remark that can not be. */
        void play(Company company, int soBits) {
            needles.copyFrom(company.needles);
            stop = NONE;
            why = NONE;
            put(heights, 0, needles.count);
            for (int i = 0; i < count; i++) {
                int remark = at(remarks, i);
                int reason = whyNot(remark, company, soBits, needles);
                if (reason != 0) {
                    stop = i;
                    why = reason;
                    return;
                }
                needles.hear(remark, soBits);
                put(heights, i + 1, needles.count);
            }
        }

        int lowest() {
            int low = at(heights, 0);
            for (int i = 1; i <= count; i++) {
                low = Math.min(low, at(heights, i));
            }
            return low;
        }

        int highest() {
            int high = at(heights, 0);
            for (int i = 1; i <= count; i++) {
                high = Math.max(high, at(heights, i));
            }
            return high;
        }

        int remarkTaking(int row) {
            for (int i = 0; i < count; i++) {
                if (at(heights, i + 1) <= row) {
                    return i;
                }
            }
            return NONE;
        }

        int habitOf(int guest, int soBits) {
            int habit = 0;
            for (int i = 0; i < count; i++) {
                int remark = at(remarks, i);
                if (isSpoken(remark) && guestOf(remark) == guest) {
                    habit |= isTrue(remark, soBits) ? ONLY_SO : ONLY_NOT;
                }
            }
            return habit;
        }
    }

    /** The pad as a pattern: its rows. */
    private static final class Pattern {
        final int[] colours = new int[MOST_SIGNS];
        final int[] kinds = new int[MOST_SIGNS];
        int count = 0;

        /** Tells the fault, NONE if there is none: then the rows are there. */
        int read(Pad pad) {
            count = 0;
            boolean canTwist = false;
            for (int place = 0; place < pad.count; place++) {
                int sign = at(pad.signs, place);
                if (sign == '*' && canTwist) {
                    put(kinds, count - 1, CABLE);
                    canTwist = false;
                } else if (sign == 'm') {
                    add(MOSS, MOSSY);
                    canTwist = false;
                } else if (isGuest(sign - 'A')) {
                    add(sign - 'A', PLAIN);
                    canTwist = true;
                } else {
                    return place;
                }
            }
            return NONE;
        }

        private void add(int colour, int kind) {
            put(colours, count, colour);
            put(kinds, count, kind);
            count++;
        }
    }

    /** What the worlds have in common. */
    private static final class Survey {
        int count = 0;
        int least = NONE;
        int inAll = 0;
        int inSome = 0;
        final int[] soIn = new int[MOST_FACTS];

        void clear() {
            count = 0;
            least = NONE;
            inAll = 0;
            inSome = 0;
            for (int fact = 0; fact < MOST_FACTS; fact++) {
                put(soIn, fact, 0);
            }
        }

        /** Worlds are added from the least on. */
        void add(int world) {
            if (count == 0) {
                least = world;
                inAll = world;
            }
            count++;
            inAll &= world;
            inSome |= world;
            for (int fact = 0; fact < MOST_FACTS; fact++) {
                put(soIn, fact, at(soIn, fact) + (world >> fact & 1));
            }
        }

        int leftAtMost(int fact) {
            int so = at(soIn, fact);
            return Math.max(so, count - so);
        }

        int bestFact(int factCount) {
            int best = 0;
            for (int fact = 1; fact < factCount; fact++) {
                if (leftAtMost(fact) < leftAtMost(best)) {
                    best = fact;
                }
            }
            return best;
        }
    }

    /** In how many orders of true remarks and lies so many rows are left. */
    private static final class Orders {
        private static final int HEIGHTS = MOST_ROWS + MOST_OF_A_KIND + 1;

        /** By how many were true, and by rows; the lies so far are the turn of the loop. */
        private final long[] ways = new long[(MOST_OF_A_KIND + 1) * HEIGHTS];

        long ending(int trues, int lies, int from, int rows) {
            if (rows >= HEIGHTS) {
                return 0;
            }
            for (int i = 0; i < ways.length; i++) {
                put(ways, i, 0L);
            }
            put(ways, from, 1L);
            for (int liesSaid = 0; liesSaid <= lies; liesSaid++) {
                for (int truesSaid = 0; truesSaid <= trues; truesSaid++) {
                    if (liesSaid > 0) {
                        raise(truesSaid * HEIGHTS);
                    }
                    if (truesSaid > 0) {
                        addDropped((truesSaid - 1) * HEIGHTS, truesSaid * HEIGHTS);
                    }
                }
            }
            return at(ways, trues * HEIGHTS + rows);
        }

        private void raise(int start) {
            for (int rows = HEIGHTS - 1; rows > 0; rows--) {
                put(ways, start + rows, at(ways, start + rows - 1));
            }
            put(ways, start, 0L);
        }

        private void addDropped(int from, int to) {
            for (int rows = 0; rows < HEIGHTS; rows++) {
                int below = to + Math.max(0, rows - 1);
                put(ways, below, at(ways, below) + at(ways, from + rows));
            }
        }
    }

    /** By how many of all the tenths, taken together, so many rows are left. */
    private static final class Odds {
        private static final int HEIGHTS = MOST_ROWS + MOST_AHEAD + MOST_REMARKS + 1;

        private final long[] shares = new long[HEIGHTS];

        void play(int from, int remarks, int tenths) {
            for (int rows = 0; rows < HEIGHTS; rows++) {
                put(shares, rows, 0L);
            }
            put(shares, from, 1L);
            for (int i = 0; i < remarks; i++) {
                step(tenths);
            }
        }

        private void step(int tenths) {
            long below = 0;
            for (int rows = 0; rows < HEIGHTS; rows++) {
                long here = at(shares, rows);
                // Of no rows none can go: what was there stays.
                long falling = at(shares, rows + 1) + (rows == 0 ? here : 0);
                put(shares, rows, below * (TENTHS - tenths) + falling * tenths);
                below = here;
            }
        }

        long atLeast(int k) {
            long sum = 0;
            for (int rows = Math.max(0, k); rows < HEIGHTS; rows++) {
                sum += at(shares, rows);
            }
            return sum;
        }

        long sumOfRows() {
            long sum = 0;
            for (int rows = 0; rows < HEIGHTS; rows++) {
                sum += rows * at(shares, rows);
            }
            return sum;
        }
    }
}
