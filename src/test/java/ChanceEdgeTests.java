import java.math.BigInteger;

/** The edges that the document names in part 4: each number's ends, images, what is told. */
public final class ChanceEdgeTests {
    private static final int OUTSIDE = -2, STATE = -3, NONE = -6;
    private static final long GONE = -1000000000000000000L;
    private static final Check check = new Check("edges of chances");

    public static void main(String[] args) {
        ordersAtTheEnds();
        ordersOfAllEnds();
        aboveThirtyNothingBars();
        leftAtTheEnds();
        leftIsWhereOrdersBegin();
        chanceAtTheEnds();
        chanceInLowestTerms();
        chanceFromNow();
        overAtTheEnds();
        atLeast();
        overOfAllEnds();
        patternsAtTheEnds();
        patternsByThoseWhoCanLie();
        drawsAtTheEnds();
        drawsOfManySeeds();
        drawsWhatCanNotBe();
        drawsAreNotDone();
        imagesNotKept();
        imagesOutliveFacts();
        imagesAndThePad();
        imagesAreKeptApart();
        allThatAnImageKeeps();
        told();
        check.end();
    }

    private static void is(String call, long got, long due) {
        check.is(call, got, due);
    }

    /** "a true REMARKS and b lies (0 to 12 each)", "r ROWS (0 to 30", "k ROWS (0 to 50)". */
    private static void ordersAtTheEnds() {
        check.part("orders at the ends");
        RavelKnit x = new RavelKnit();
        is("orders(0, 0, 0, 0)", x.orders(0, 0, 0, 0), 1);
        is("orders(0, 0, 0, 1)", x.orders(0, 0, 0, 1), 0);
        is("orders(0, 0, 30, 30)", x.orders(0, 0, 30, 30), 1);
        is("orders(0, 0, 30, 31)", x.orders(0, 0, 30, 31), 0);
        is("orders(12, 0, 0, 0)", x.orders(12, 0, 0, 0), 1);
        is("orders(12, 0, 12, 0)", x.orders(12, 0, 12, 0), 1);
        is("orders(12, 0, 13, 1)", x.orders(12, 0, 13, 1), 1);
        is("orders(12, 0, 30, 18)", x.orders(12, 0, 30, 18), 1);
        is("orders(0, 12, 0, 12)", x.orders(0, 12, 0, 12), 1);
        is("orders(0, 12, 0, 13)", x.orders(0, 12, 0, 13), 0);
        is("orders(0, 12, 30, 42)", x.orders(0, 12, 30, 42), 1);
        is("orders(0, 12, 30, 43)", x.orders(0, 12, 30, 43), 0);
        is("orders(0, 12, 30, 50)", x.orders(0, 12, 30, 50), 0);
        is("orders(12, 12, 30, 30)", x.orders(12, 12, 30, 30), 2704156);
        is("orders(12, 12, 30, 50)", x.orders(12, 12, 30, 50), 0);
        is("orders(12, 12, 11, 11)", x.orders(12, 12, 11, 11), 2704155);
        is("orders(12, 12, 11, 12)", x.orders(12, 12, 11, 12), 1);
        is("orders(12, 12, 0, 0)", x.orders(12, 12, 0, 0), 208012);
        is("orders(12, 12, 0, 12)", x.orders(12, 12, 0, 12), 1);
        is("orders(13, 0, 0, 0)", x.orders(13, 0, 0, 0), GONE - 2);
        is("orders(0, 13, 0, 0)", x.orders(0, 13, 0, 0), GONE - 2);
        is("orders(0, 0, 31, 0)", x.orders(0, 0, 31, 0), GONE - 2);
        is("orders(0, 0, 0, 51)", x.orders(0, 0, 0, 51), GONE - 2);
        is("orders(-1, 0, 0, 0)", x.orders(-1, 0, 0, 0), GONE - 2);
        is("orders(0, -1, 0, 0)", x.orders(0, -1, 0, 0), GONE - 2);
        is("orders(0, 0, -1, 0)", x.orders(0, 0, -1, 0), GONE - 2);
        is("orders(0, 0, 0, -1)", x.orders(0, 0, 0, -1), GONE - 2);
    }

    /** All orders together are as many as a + b over a. */
    private static void ordersOfAllEnds() {
        check.part("all orders");
        for (int a : new int[] {0, 1, 11, 12}) {
            for (int b : new int[] {0, 1, 11, 12}) {
                for (int r : new int[] {0, 1, 12, 29, 30}) {
                    RavelKnit x = new RavelKnit();
                    long sum = 0;
                    for (int k = 0; k <= 50; k++) {
                        sum += x.orders(a, b, r, k);
                    }
                    is("all of orders(" + a + ", " + b + ", " + r + ", k)", sum, over(a + b, a));
                }
            }
        }
    }

    private static long over(int n, int k) {
        long many = 1;
        for (int i = 1; i <= k; i++) {
            many = many * (n - k + i) / i;
        }
        return many;
    }

    /** "above 30 nothing bars": nor do width, tempers and rows now. */
    private static void aboveThirtyNothingBars() {
        check.part("nothing bars");
        RavelKnit x = Scene.FULL.make();
        for (int guest = 0; guest < 6; guest++) {
            x.temper(guest, 1 + guest % 2);
        }
        is("orders(1, 2, 29, 30)", x.orders(1, 2, 29, 30), 3);
        is("orders(1, 2, 30, 31)", x.orders(1, 2, 30, 31), 3);
        is("left(0, 1, 30, 1)", x.left(0, 1, 30, 1), 31);
        is("chance(1, 0, 31, 0)", x.chance(1, 0, 31, 0), 1);
        is("chance(12, 0, 42, 0)", x.chance(12, 0, 42, 0), 1);
        is("over(0, 0, 50, 1, 1)", x.over(0, 0, 50, 1, 1), 20);
    }

    private static void leftAtTheEnds() {
        check.part("left at the ends");
        RavelKnit x = new RavelKnit();
        int[][] of = {{0, 0, 0}, {0, 0, 30}, {12, 0, 0}, {12, 0, 12}, {12, 0, 13}, {12, 0, 30}, {0, 12, 0}, {0, 12, 30}, {12, 12, 0}, {12, 12, 11}, {12, 12, 12}, {12, 12, 30}, {12, 1, 0}, {1, 12, 0}};
        int[][] due = {{0, 0}, {30, 30}, {0, 0}, {0, 0}, {1, 1}, {18, 18}, {12, 12}, {42, 42}, {0, 12}, {11, 12}, {12, 12}, {30, 30}, {0, 1}, {11, 12}};
        for (int i = 0; i < of.length; i++) {
            for (int what = 0; what < 2; what++) {
                is("left(" + of[i][0] + ", " + of[i][1] + ", " + of[i][2] + ", " + what + ")", x.left(of[i][0], of[i][1], of[i][2], what), due[i][what]);
            }
        }
        is("left(13, 0, 0, 0)", x.left(13, 0, 0, 0), OUTSIDE);
        is("left(0, 13, 0, 0)", x.left(0, 13, 0, 0), OUTSIDE);
        is("left(0, 0, 31, 0)", x.left(0, 0, 31, 0), OUTSIDE);
        is("left(0, 0, 0, 2)", x.left(0, 0, 0, 2), OUTSIDE);
        is("left(-1, 0, 0, 0)", x.left(-1, 0, 0, 0), OUTSIDE);
        is("left(0, -1, 0, 0)", x.left(0, -1, 0, 0), OUTSIDE);
        is("left(0, 0, -1, 0)", x.left(0, 0, -1, 0), OUTSIDE);
        is("left(0, 0, 0, -1)", x.left(0, 0, 0, -1), OUTSIDE);
    }

    /** The fewest and the most are those that some order leaves. */
    private static void leftIsWhereOrdersBegin() {
        check.part("left and orders");
        for (int a = 0; a <= 12; a++) {
            for (int b = 0; b <= 12; b++) {
                for (int r = 0; r <= 30; r += r < 13 ? 1 : 17) {
                    RavelKnit x = new RavelKnit();
                    int fewest = x.left(a, b, r, 0);
                    int most = x.left(a, b, r, 1);
                    String of = "orders(" + a + ", " + b + ", " + r + ", ";
                    check.holds(of + fewest + ") are some", x.orders(a, b, r, fewest) > 0);
                    check.holds(of + most + ") are some", x.orders(a, b, r, most) > 0);
                    check.holds(of + most + " + 1) are none", x.orders(a, b, r, most + 1) == 0);
                    check.holds(of + fewest + " - 1) are none", fewest == 0 || x.orders(a, b, r, fewest - 1) == 0);
                }
            }
        }
    }

    private static void chance(RavelKnit x, int m, int t, int k, long upper, long lower) {
        String of = "chance(" + m + ", " + t + ", " + k + ", ";
        is(of + "0)", x.chance(m, t, k, 0), upper);
        is(of + "1)", x.chance(m, t, k, 1), lower);
    }

    /** "m REMARKS (0 to 12)", "t tenths (0 to 10)", "k 0 to 50", "the mean (k = -1)". */
    private static void chanceAtTheEnds() {
        check.part("chance at the ends");
        RavelKnit x = new RavelKnit();
        chance(x, 0, 0, -1, 0, 1);
        chance(x, 0, 10, 0, 1, 1);
        chance(x, 0, 10, 1, 0, 1);
        chance(x, 0, 0, 50, 0, 1);
        chance(x, 12, 0, -1, 12, 1);
        chance(x, 12, 0, 12, 1, 1);
        chance(x, 12, 0, 13, 0, 1);
        chance(x, 12, 10, -1, 0, 1);
        chance(x, 12, 10, 0, 1, 1);
        chance(x, 12, 10, 1, 0, 1);
        chance(x, 12, 1, 12, 282429536481L, 1000000000000L);
        chance(x, 12, 9, 12, 1, 1000000000000L);
        chance(x, 12, 5, 12, 1, 4096);
        chance(x, 1, 1, 1, 9, 10);
        chance(x, 1, 9, 1, 1, 10);
        chance(x, 1, 5, -1, 1, 2);
        x = Check.knitted(".".repeat(30));
        chance(x, 0, 0, 30, 1, 1);
        chance(x, 0, 0, 31, 0, 1);
        chance(x, 0, 0, -1, 30, 1);
        chance(x, 12, 0, 42, 1, 1);
        chance(x, 12, 0, 43, 0, 1);
        chance(x, 12, 0, 50, 0, 1);
        chance(x, 12, 0, -1, 42, 1);
        chance(x, 12, 10, 18, 1, 1);
        chance(x, 12, 10, 19, 0, 1);
        chance(x, 12, 10, -1, 18, 1);
        chance(x, 12, 5, -1, 30, 1);
        is("chance(13, ..)", x.chance(13, 0, 0, 0), GONE - 2);
        is("chance(-1, ..)", x.chance(-1, 0, 0, 0), GONE - 2);
        is("chance(0, 11, ..)", x.chance(0, 11, 0, 0), GONE - 2);
        is("chance(0, -1, ..)", x.chance(0, -1, 0, 0), GONE - 2);
        is("chance(0, 0, 51, 0)", x.chance(0, 0, 51, 0), GONE - 2);
        is("chance(0, 0, -2, 0)", x.chance(0, 0, -2, 0), GONE - 2);
        is("chance(0, 0, 0, 2)", x.chance(0, 0, 0, 2), GONE - 2);
        is("chance(0, 0, 0, -1)", x.chance(0, 0, 0, -1), GONE - 2);
    }

    /** "Fractions are told in lowest terms": none is 0 by 1. */
    private static void chanceInLowestTerms() {
        check.part("lowest terms");
        for (String rows : new String[] {"", ".", ".....", ".".repeat(30)}) {
            for (int m = 0; m <= 12; m++) {
                RavelKnit x = Check.knitted(rows);
                for (int t = 0; t <= 10; t++) {
                    for (int k : new int[] {-1, 0, 1, rows.length(), rows.length() + 1, rows.length() + m - 1, rows.length() + m, 50}) {
                        long upper = x.chance(m, t, k, 0);
                        long lower = x.chance(m, t, k, 1);
                        String of = "chance(" + m + ", " + t + ", " + k + ") from " + rows.length();
                        check.holds(of + " is not below 0", upper >= 0 && lower > 0);
                        is(of + ", what both share", BigInteger.valueOf(upper).gcd(BigInteger.valueOf(lower)).longValue(), 1);
                        check.holds(of + " is of tenths", BigInteger.TEN.pow(m).longValue() % lower == 0);
                    }
                    if (t == 5) {
                        x = Check.knitted(rows);
                    }
                }
            }
        }
    }

    /** "from as many ROWS as now". */
    private static void chanceFromNow() {
        check.part("chance from now");
        RavelKnit x = Check.knitted("..");
        Check.say(x, "...");
        chance(x, 1, 5, 3, 1, 2);
        chance(x, 1, 5, 2, 1, 2);
        chance(x, 1, 5, 1, 1, 1);
        x.done();
        chance(x, 1, 5, 5, 1, 2);
        chance(x, 1, 5, 6, 1, 2);
        chance(x, 1, 5, 7, 0, 1);
        is("told(3)", x.told(3), 5);
    }

    /** "(0 to 40; NONE)", "b 1 to 100, a 0 to b". */
    private static void overAtTheEnds() {
        check.part("over at the ends");
        RavelKnit x = new RavelKnit();
        is("none wanted", x.over(0, 0, 0, 1, 1), 0);
        is("one", x.over(0, 0, 1, 1, 1), 1);
        is("forty", x.over(0, 0, 40, 1, 1), 40);
        is("forty-one", x.over(0, 0, 41, 1, 1), NONE);
        is("fifty", x.over(0, 0, 50, 1, 1), NONE);
        is("fifty, by no part", x.over(0, 0, 50, 0, 1), 0);
        is("fifty, by no part of a hundred", x.over(12, 10, 50, 0, 100), 0);
        is("fifty, by one of a hundred", x.over(12, 10, 50, 1, 100), NONE);
        is("twelve go for certain", x.over(12, 10, 28, 100, 100), 40);
        is("twelve go for certain", x.over(12, 10, 29, 100, 100), NONE);
        is("twelve come for certain", x.over(12, 0, 50, 100, 100), 38);
        is("twelve come for certain", x.over(12, 0, 12, 100, 100), 0);
        is("twelve come for certain", x.over(12, 0, 13, 100, 100), 1);
        x = Check.knitted(".".repeat(30));
        is("thirty are there", x.over(0, 0, 30, 1, 1), 0);
        is("twenty are wanted", x.over(0, 0, 50, 1, 1), 20);
        is("twelve go of seventy", x.over(12, 10, 50, 1, 1), 32);
        is("over(.., 0, 0)", x.over(0, 0, 0, 0, 0), OUTSIDE);
        is("over(.., 0, 101)", x.over(0, 0, 0, 0, 101), OUTSIDE);
        is("over(.., 101, 100)", x.over(0, 0, 0, 101, 100), OUTSIDE);
        is("over(.., -1, 100)", x.over(0, 0, 0, -1, 100), OUTSIDE);
        is("over(.., 2, 1)", x.over(0, 0, 0, 2, 1), OUTSIDE);
        is("over(.., 0, -1)", x.over(0, 0, 0, 0, -1), OUTSIDE);
        is("over(.., -2, -1)", x.over(0, 0, 0, -2, -1), OUTSIDE);
        is("over of a k of -1", x.over(0, 0, -1, 0, 1), OUTSIDE);
        is("over of a k of 51", x.over(0, 0, 51, 0, 1), OUTSIDE);
    }

    /** "with a by b (..) at least": as much is enough. */
    private static void atLeast() {
        check.part("at least");
        RavelKnit x = new RavelKnit();
        is("a half is enough", x.over(1, 5, 1, 1, 2), 0);
        is("50 of 100 are", x.over(1, 5, 1, 50, 100), 0);
        is("51 of 100 are not", x.over(1, 5, 1, 51, 100), 2);
        is("49 of 97 are not", x.over(1, 5, 1, 49, 97), 2);
        is("48 of 97 are", x.over(1, 5, 1, 48, 97), 0);
        is("all", x.over(1, 5, 1, 100, 100), 2);
        is("three tenths", x.over(1, 7, 1, 3, 10), 0);
        is("more than three tenths", x.over(1, 7, 1, 31, 100), 2);
        is("99 of 100", x.over(2, 1, 1, 99, 100), 1);
        is("90 of 100", x.over(2, 1, 1, 90, 100), 0);
        is("91 of 100", x.over(2, 1, 1, 91, 100), 1);
    }

    private static void overOfAllEnds() {
        check.part("over by the model");
        int[][] parts = {{0, 1}, {1, 1}, {1, 2}, {0, 100}, {1, 100}, {50, 100}, {99, 100}, {100, 100}, {33, 97}};
        for (int rows : new int[] {0, 1, 30}) {
            for (int m : new int[] {0, 1, 2, 7}) {
                for (int t : new int[] {0, 1, 5, 9, 10}) {
                    BigInteger[][] shares = new BigInteger[41][];
                    for (int lies = 0; lies <= 40; lies++) {
                        shares[lies] = Model.shares(rows + lies, m, t);
                    }
                    RavelKnit x = Check.knitted(".".repeat(rows));
                    for (int k : new int[] {0, 1, 2, 7, 30, 31, 40, 41, 50}) {
                        for (int[] part : parts) {
                            is("over(" + m + ", " + t + ", " + k + ", " + part[0] + ", " + part[1] + ") from " + rows,
                                    x.over(m, t, k, part[0], part[1]), overBy(shares, m, k, part[0], part[1]));
                        }
                    }
                }
            }
        }
    }

    private static int overBy(BigInteger[][] shares, int m, int k, int a, int b) {
        for (int lies = 0; lies <= 40; lies++) {
            BigInteger upper = Model.sum(shares[lies], k).multiply(BigInteger.valueOf(b));
            if (upper.compareTo(BigInteger.TEN.pow(m).multiply(BigInteger.valueOf(a))) >= 0) {
                return lies;
            }
        }
        return NONE;
    }

    /** "PATTERNS of k ROWS (0 to 8)". */
    private static void patternsAtTheEnds() {
        check.part("patterns at the ends");
        RavelKnit x = new RavelKnit();
        is("patterns(0)", x.patterns(0), 1);
        is("patterns(1)", x.patterns(1), 7);
        is("patterns(7)", x.patterns(7), texts(7, 6, -1));
        is("patterns(8)", x.patterns(8), 13097377);
        is("patterns(9)", x.patterns(9), OUTSIDE);
        is("patterns(-1)", x.patterns(-1), OUTSIDE);
        for (int guest = 0; guest < 6; guest++) {
            x.temper(guest, 1);
        }
        for (int k = 0; k <= 8; k++) {
            is("patterns(" + k + ") by nobody", x.patterns(k), 1);
        }
        x.temper(5, 2);
        is("patterns(0) by one", x.patterns(0), 1);
        is("patterns(8) by one", x.patterns(8), texts(8, 1, -1));
    }

    /** "by those who can lie (TEMPER), that can be MADE from none (WIDTH being enough)". */
    private static void patternsByThoseWhoCanLie() {
        check.part("patterns by those who can lie");
        for (int liars = 0; liars <= 6; liars++) {
            for (int v = 0; v <= 2; v += 2) {
                RavelKnit x = Check.knitted(".".repeat(30));
                x.width(0);
                Check.say(x, "x");
                for (int guest = 0; guest < 6; guest++) {
                    x.temper(guest, guest < liars ? v : 1);
                }
                for (int k = 0; k <= (liars < 3 ? 8 : 5); k++) {
                    is("patterns(" + k + ") by " + liars, x.patterns(k), texts(k, liars, -1));
                }
            }
        }
    }

    /** All texts of so many rows, a cable only upon a row of its guest. */
    private static long texts(int rows, int liars, int below) {
        if (rows == 0) {
            return 1;
        }
        long many = texts(rows - 1, liars, -1);
        for (int guest = 0; guest < liars; guest++) {
            many += texts(rows - 1, liars, guest);
        }
        return below < 0 ? many : many + texts(rows - 1, liars, below);
    }

    private static void drawn(RavelKnit x, int seed, int m, int rows, int came, int width) {
        String of = "draws(" + seed + ", " + m + ", ";
        is(of + "0)", x.draws(seed, m, 0), rows);
        is(of + "1)", x.draws(seed, m, 1), came);
        is(of + "2)", x.draws(seed, m, 2), width);
    }

    /** "a seed (0 to 9999) of m REMARKS (1 to 99)". */
    private static void drawsAtTheEnds() {
        check.part("draws at the ends");
        RavelKnit x = new RavelKnit();
        // From 2: 224, silence. From 5: 449, the time. From 7: 599, a lie of C's. From 9999: 29092, A says what is so.
        drawn(x, 2, 1, 1, 1, 20);
        drawn(x, 5, 1, 0, 0, 19);
        drawn(x, 7, 1, 1, 1, 20);
        drawn(x, 9999, 1, 0, 0, 20);
        Model model = new Model();
        for (int seed : new int[] {0, 1, 9998, 9999}) {
            for (int m : new int[] {1, 2, 98, 99}) {
                drawn(x, seed, m, model.draws(seed, m, 0), model.draws(seed, m, 1), model.draws(seed, m, 2));
            }
        }
        is("draws(-1, 1, 0)", x.draws(-1, 1, 0), OUTSIDE);
        is("draws(10000, 1, 0)", x.draws(10000, 1, 0), OUTSIDE);
        is("draws(0, 0, 0)", x.draws(0, 0, 0), OUTSIDE);
        is("draws(0, 100, 0)", x.draws(0, 100, 0), OUTSIDE);
        is("draws(0, 1, 3)", x.draws(0, 1, 3), OUTSIDE);
        is("draws(0, 1, -1)", x.draws(0, 1, -1), OUTSIDE);
    }

    /** Every fifth seed, by all numbers of facts, tempers and widths. */
    private static void drawsOfManySeeds() {
        check.part("draws of many seeds");
        for (int seed = 0; seed <= 9999; seed += 5) {
            RavelKnit x = new RavelKnit();
            Model model = new Model();
            int n = 1 + seed % 8;
            x.facts(n);
            model.facts(n);
            for (int fact = 0; fact < n; fact++) {
                boolean is = (seed >> fact & 1) == 1;
                x.fact(fact, is);
                model.fact(fact, is);
            }
            for (int guest = 0; guest < 6; guest++) {
                int v = seed / (7 + guest) % 3;
                x.temper(guest, v);
                model.temper(guest, v);
            }
            x.width(seed % 41);
            model.width(seed % 41);
            for (int what = 0; what < 3; what++) {
                is("draws(" + seed + ", 99, " + what + ")", x.draws(seed, 99, what), model.draws(seed, 99, what));
            }
        }
    }

    /** "what can not be is let be". */
    private static void drawsWhatCanNotBe() {
        check.part("draws of what can not be");
        // From 2: 224, silence. From 5: 449, the time. From 7: 599, a lie of C's. From 0: 74, a child.
        RavelKnit x = Check.knitted(".".repeat(30));
        drawn(x, 2, 1, 30, 0, 20);
        drawn(x, 7, 1, 30, 0, 20);
        drawn(x, 5, 1, 30, 0, 19);
        drawn(x, 0, 1, 0, 0, 20);
        x.width(0);
        drawn(x, 5, 1, 30, 0, 0);
        x = Check.knitted(".".repeat(29));
        drawn(x, 2, 1, 30, 1, 20);
        drawn(x, 7, 1, 30, 1, 20);
        x = new RavelKnit();
        x.width(0);
        drawn(x, 2, 1, 0, 0, 0);
        drawn(x, 7, 1, 0, 0, 0);
        drawn(x, 5, 1, 0, 0, 0);
        drawn(x, 9999, 99, 0, 0, 0);
        x.width(1);
        drawn(x, 2, 1, 1, 1, 1);
        drawn(x, 5, 1, 0, 0, 0);
        x.temper(2, 1);
        drawn(x, 7, 1, 0, 0, 1);
        x.fact(0, true);
        drawn(x, 7, 1, 0, 0, 1);
        // From 9999: 29092, A says that c is not so.
        x = Check.knitted("..");
        drawn(x, 9999, 1, 1, 0, 20);
        x.temper(0, 2);
        drawn(x, 9999, 1, 2, 0, 20);
        x.fact(2, true);
        drawn(x, 9999, 1, 3, 1, 20);
    }

    /** "Nothing is DONE in fact." */
    private static void drawsAreNotDone() {
        check.part("draws are not done");
        for (Scene scene : Scene.values()) {
            RavelKnit x = scene.make();
            for (int what = 0; what < 3; what++) {
                is("draws(0, 99, " + what + ") again", x.draws(0, 99, what), x.draws(0, 99, what));
            }
            check.holds("all answers are as they were, " + scene, Scene.answersOf(x).equals(scene.answers()));
        }
    }

    private static void imagesNotKept() {
        check.part("images that were not kept");
        RavelKnit x = new RavelKnit();
        is("restore(0)", x.restore(0), STATE);
        is("restore(1)", x.restore(1), STATE);
        is("image(-1)", x.image(-1), OUTSIDE);
        is("image(2)", x.image(2), OUTSIDE);
        is("restore(0)", x.restore(0), STATE);
        is("restore(1)", x.restore(1), STATE);
        is("image(1)", x.image(1), 1);
        is("restore(0)", x.restore(0), STATE);
        is("restore(1)", x.restore(1), 1);
        is("image(0)", x.image(0), 1);
        is("restore(0)", x.restore(0), 1);
        is("restore(2)", x.restore(2), OUTSIDE);
        is("restore(-1)", x.restore(-1), OUTSIDE);
    }

    /** An image stays, whatever facts() makes of now; one that facts() did not keep does not come. */
    private static void imagesOutliveFacts() {
        check.part("images that outlive facts()");
        RavelKnit x = new RavelKnit();
        x.facts(8);
        x.fact(7, true);
        Check.knit(x, "Aa+Aa+");
        x.image(0);
        x.facts(1);
        x.facts(8);
        is("restore(1)", x.restore(1), STATE);
        is("rows", x.told(3), 0);
        is("restore(0)", x.restore(0), 1);
        is("facts", x.told(1), 8);
        is("those that are so", x.told(2), 128);
        is("rows", x.told(3), 2);
        is("the kind of the last", x.state(1, 1), 1);
        x.facts(1);
        is("restore(0) again", x.restore(0), 1);
        is("fact(7)", x.fact(7, false), 0);
        is("fact(8)", x.fact(8, true), -1);
    }

    /** "All but the PAD": it is as it is, when an image is kept and when it comes again. */
    private static void imagesAndThePad() {
        check.part("images and the pad");
        RavelKnit x = new RavelKnit();
        Check.say(x, "Aa+");
        x.image(0);
        is("the pad stays", x.told(0), 3);
        is("it can be done", x.done(), 1);
        is("restore(0) on an empty pad", x.restore(0), 1);
        is("nothing is on it", x.told(0), 0);
        is("rows", x.told(3), 0);
        Check.say(x, "x".repeat(60));
        is("restore(0) on a full pad", x.restore(0), 1);
        is("sixty signs are on it", x.told(0), 60);
        is("fault(0)", x.fault(0), 0);
        is("wipe()", x.wipe(), 60);
        Check.say(x, ".Bb+");
        x.image(1);
        x.restore(0);
        is("the signs are those that were said last", x.judge(2), 2);
        is("of them", x.row(1, 0), 1);
    }

    private static void imagesAreKeptApart() {
        check.part("two images");
        RavelKnit x = Check.knitted("Aa+");
        x.image(0);
        Check.knit(x, "!Ba+Ba+");
        x.image(1);
        Check.knit(x, "!Ca+Ca+?Ca+");
        x.width(3);
        x.restore(0);
        is("rows of 0", x.told(3), 1);
        is("its colour", x.state(0, 0), 0);
        Check.knit(x, "!Da+.");
        x.restore(0);
        is("rows of 0 again", x.told(3), 1);
        is("its colour", x.state(0, 0), 0);
        is("its width", x.told(4), 20);
        x.restore(1);
        is("rows of 1", x.told(3), 2);
        is("its colour", x.state(1, 0), 1);
        x.image(0);
        x.facts(2);
        x.restore(0);
        is("0 is kept anew", x.told(3), 2);
        x.facts(2);
        x.restore(1);
        is("1 is as it was", x.told(3), 2);
        is("facts", x.told(1), 4);
    }

    private static void allThatAnImageKeeps() {
        check.part("what an image keeps");
        for (Scene scene : new Scene[] {Scene.RICH, Scene.PATTERN, Scene.BROKEN}) {
            RavelKnit x = scene.make();
            x.image(1);
            String pad = scene == Scene.RICH ? "Cb+?Fc+Fc+" : scene == Scene.PATTERN ? "CC*mEB" : "Cb+Ag+Ca";
            x.facts(3);
            x.fact(2, true);
            x.temper(4, 1);
            x.width(31);
            x.seen(4, 4);
            Check.knit(x, "Aa+..");
            Check.pad(x, pad);
            is("restore(1)", x.restore(1), 1);
            // What was image 1 was as now; so all answers are as they were.
            check.holds("all is as it was, " + scene, Scene.answersOf(x).equals(scene.answers()));
        }
        RavelKnit x = new RavelKnit();
        for (int i = 0; i < 8; i++) {
            x.seen(0, 0);
        }
        x.image(0);
        x.forget();
        is("a sight that is not so", x.seen(0, 1), 1);
        x.restore(0);
        is("eight sights", x.told(5), 8);
        is("all are so", x.worlds(0), 16);
        is("a ninth", x.seen(0, 0), -4);
    }

    private static void told() {
        check.part("told");
        RavelKnit x = new RavelKnit();
        int[] least = {0, 4, 0, 0, 20, 0};
        for (int what = 0; what <= 5; what++) {
            is("told(" + what + ") at first", x.told(what), least[what]);
        }
        x.facts(8);
        for (int fact = 0; fact < 8; fact++) {
            x.fact(fact, true);
        }
        Check.knit(x, ".".repeat(30));
        x.width(40);
        for (int i = 0; i < 8; i++) {
            x.seen(0, 0);
        }
        Check.say(x, "x".repeat(60));
        int[] most = {60, 8, 255, 30, 40, 8};
        for (int what = 0; what <= 5; what++) {
            is("told(" + what + ") at most", x.told(what), most[what]);
        }
        for (int guest = 0; guest < 6; guest++) {
            for (int v = 2; v >= 0; v--) {
                x.temper(guest, v);
                is("told(" + (10 + guest) + ")", x.told(10 + guest), v);
            }
        }
        for (int what : new int[] {-1, 6, 9, 16}) {
            is("told(" + what + ")", x.told(what), OUTSIDE);
        }
    }
}
