import java.util.Random;

/** Long runs of calls, and all small cases of some, against the model. */
public final class ModelTests {
    private static final Check check = new Check("model");

    public static void main(String[] args) {
        runs(args.length > 0 ? Integer.parseInt(args[0]) : 400);
        making(args.length > 1 ? Integer.parseInt(args[1]) : 400);
        allOrders();
        allChances();
        allPatterns();
        check.end();
    }

    // ---- long runs

    private static void runs(int many) {
        for (int run = 0; run < many; run++) {
            check.part("run " + run);
            Random random = new Random(run);
            RavelKnit x = new RavelKnit();
            Model m = new Model();
            for (int calls = 0; calls < 390; ) {
                calls += step(x, m, random);
            }
        }
    }

    /** One call, or a text of them. */
    private static int step(RavelKnit x, Model m, Random random) {
        switch (random.nextInt(12)) {
            case 0:
                return setting(x, m, random);
            case 1:
            case 2:
            case 3:
                return saying(x, m, random);
            case 4:
            case 5:
                check.is("done()", x.done(), m.done());
                return 1;
            case 6:
            case 7:
                return evening(x, m, random);
            case 8:
                return sights(x, m, random);
            case 9:
                return keeping(x, m, random);
            case 10:
                return drawing(x, m, random);
            default:
                int what = random.nextInt(18) - 1;
                check.is("told(" + what + ")", x.told(what), m.told(what));
                return 1;
        }
    }

    private static int setting(RavelKnit x, Model m, Random random) {
        int a = random.nextInt(8) - 1;
        int b = random.nextInt(5) - 1;
        switch (random.nextInt(8)) {
            case 0:
                int n = random.nextInt(40);
                check.is("facts(" + n + ")", x.facts(n), m.facts(n));
                return 1;
            case 1:
            case 2:
            case 3:
                check.is("fact(" + a + ")", x.fact(a, b > 1), m.fact(a, b > 1));
                return 1;
            case 4:
                int v = random.nextInt(44) - 2;
                check.is("width(" + v + ")", x.width(v), m.width(v));
                return 1;
            default:
                check.is("temper(" + a + ", " + b + ")", x.temper(a, b), m.temper(a, b));
                return 1;
        }
    }

    private static int saying(RavelKnit x, Model m, Random random) {
        StringBuilder text = new StringBuilder();
        int remarks = random.nextInt(random.nextInt(8) == 0 ? 40 : 9);
        for (int i = 0; i < remarks; i++) {
            int kind = random.nextInt(12);
            if (kind < 3) {
                text.append(".?!".charAt(kind));
            } else {
                text.append("ABCDEF".charAt(random.nextInt(random.nextBoolean() ? 2 : 6)));
                text.append((char) ('a' + random.nextInt(m.all.n))).append(random.nextBoolean() ? '+' : '-');
            }
        }
        if (random.nextInt(10) == 0) {
            text.insert(random.nextInt(text.length() + 1), (char) (31 + random.nextInt(98)));
        }
        int calls = 1;
        if (random.nextInt(4) != 0) {
            check.is("wipe()", x.wipe(), m.wipe());
            calls++;
        }
        for (char sign : text.toString().toCharArray()) {
            check.is("say(" + sign + ")", x.say(sign), m.say(sign));
            calls++;
        }
        check.is("fault(0)", x.fault(0), m.fault(0));
        check.is("fault(1)", x.fault(1), m.fault(1));
        return calls + 1;
    }

    private static int evening(RavelKnit x, Model m, Random random) {
        int what = random.nextInt(6) - 1;
        int row = random.nextInt(32) - 1;
        int guest = random.nextInt(8) - 1;
        check.is("judge(" + what + ")", x.judge(what), m.judge(what));
        check.is("behind(" + what + ")", x.behind(what), m.behind(what));
        check.is("row(" + row + ", " + what + ")", x.row(row, what), m.row(row, what));
        check.is("lost(" + row + ")", x.lost(row), m.lost(row));
        check.is("state(" + row + ", " + what + ")", x.state(row, what), m.state(row, what));
        check.is("says(" + guest + ")", x.says(guest), m.says(guest));
        return 6;
    }

    private static int sights(RavelKnit x, Model m, Random random) {
        if (random.nextInt(3) != 0) {
            check.is("forget()", x.forget(), m.forget());
        }
        if (random.nextInt(3) != 0) {
            int remarks = random.nextInt(7) - 1;
            int rows = Math.max(0, m.all.rows.size() + random.nextInt(5) - 2);
            check.is("seen(" + remarks + ", " + rows + ")", x.seen(remarks, rows), m.seen(remarks, rows));
        }
        for (int what = -1; what < 5; what++) {
            check.is("worlds(" + what + ")", x.worlds(what), m.worlds(what));
        }
        for (int what = -1; what < 3; what++) {
            check.is("tell(" + what + ")", x.tell(what), m.tell(what));
        }
        return 12;
    }

    private static int keeping(RavelKnit x, Model m, Random random) {
        int k = random.nextInt(3) - (random.nextInt(9) == 0 ? 1 : 0);
        if (random.nextInt(3) != 0) {
            check.is("image(" + k + ")", x.image(k), m.image(k));
        } else {
            check.is("restore(" + k + ")", x.restore(k), m.restore(k));
        }
        return 1;
    }

    private static int drawing(RavelKnit x, Model m, Random random) {
        int seed = random.nextInt(10000);
        int many = 1 + random.nextInt(99);
        for (int what = 0; what < 3; what++) {
            check.is("draws(" + seed + ", " + many + ", " + what + ")", x.draws(seed, many, what), m.draws(seed, many, what));
        }
        int remarks = random.nextInt(7);
        int t = random.nextInt(11);
        int k = Math.max(0, m.all.rows.size() + random.nextInt(9) - 4);
        int b = 1 + random.nextInt(100);
        int a = random.nextInt(b + 1);
        for (int part = 0; part < 2; part++) {
            check.is("chance(" + remarks + ", " + t + ", " + k + ", " + part + ")", x.chance(remarks, t, k, part), m.chance(remarks, t, k, part));
            check.is("chance(" + remarks + ", " + t + ", -1, " + part + ")", x.chance(remarks, t, -1, part), m.chance(remarks, t, -1, part));
        }
        check.is("over(" + remarks + ", " + t + ", " + k + ", " + a + ", " + b + ")", x.over(remarks, t, k, a, b), m.over(remarks, t, k, a, b));
        return 8;
    }

    // ---- what is made

    private static void making(int many) {
        for (int run = 0; run < many; run++) {
            check.part("making " + run);
            Random random = new Random(-1 - run);
            RavelKnit x = new RavelKnit();
            Model m = new Model();
            int highest = 4;
            knitAny(x, m, random, highest);
            int rest = random.nextInt(3);
            for (int guest = 0; guest < 6; guest++) {
                int v = guest < 2 ? random.nextInt(3) : rest;
                x.temper(guest, v);
                m.temper(guest, v);
            }
            int width = random.nextInt(4);
            x.width(width);
            m.width(width);
            for (int i = 0; i < 3; i++) {
                compareMaking(x, m, random, highest);
            }
        }
    }

    /** Rows of two guests and moss, some of them cables. */
    private static void knitAny(RavelKnit x, Model m, Random random, int highest) {
        int rows = random.nextInt(highest + 1);
        for (int i = 0; i < rows; i++) {
            for (char sign : (random.nextInt(4) == 0 ? "." : random.nextInt(3) != 0 ? "Aa+" : "Ba+").toCharArray()) {
                x.say(sign);
                m.say(sign);
            }
            if (random.nextInt(3) == 0) {
                x.say('?');
                m.say('?');
            }
        }
        check.is("done()", x.done(), m.done());
    }

    private static void compareMaking(RavelKnit x, Model m, Random random, int highest) {
        x.wipe();
        m.wipe();
        for (int i = random.nextInt(highest + 1); i > 0; i--) {
            boolean isMoss = random.nextInt(5) == 0;
            char letter = isMoss ? 'm' : random.nextInt(3) != 0 ? 'A' : 'B';
            x.say(letter);
            m.say(letter);
            if (!isMoss && random.nextInt(3) == 0) {
                x.say('*');
                m.say('*');
            }
        }
        int rows = m.patternRows().size();
        int bars = Model.NONE;
        for (int k = rows; k >= 1; k--) {
            bars = m.made(k, 3, highest + 1) == Model.NONE ? k - 1 : bars;
        }
        String of = " of " + m.pad + " from " + m.all.rows + " by " + java.util.Arrays.toString(m.all.tempers) + " at " + m.all.width;
        check.is("made()" + of, x.made(), m.made(rows, 3, highest + 1));
        check.is("bars()" + of, x.bars(), bars);
    }

    // ---- all of a kind

    private static void allOrders() {
        check.part("orders");
        for (int a = 0; a <= 12; a++) {
            for (int b = 0; b <= 12 && a + b <= 14; b++) {
                for (int r : new int[] {0, 1, 2, 5, 11, 12, 13, 29, 30}) {
                    RavelKnit x = new RavelKnit();
                    long[] due = Model.orders(a, b, r);
                    int fewest = -1;
                    int most = -1;
                    for (int k = 0; k <= 50; k++) {
                        check.is("orders(" + a + ", " + b + ", " + r + ", " + k + ")", x.orders(a, b, r, k), due[k]);
                        most = due[k] > 0 ? k : most;
                        fewest = due[k] > 0 && fewest < 0 ? k : fewest;
                    }
                    check.is("left(" + a + ", " + b + ", " + r + ", 0)", x.left(a, b, r, 0), fewest);
                    check.is("left(" + a + ", " + b + ", " + r + ", 1)", x.left(a, b, r, 1), most);
                }
            }
        }
        long sum = 0;
        RavelKnit x = new RavelKnit();
        for (int k = 0; k <= 50; k++) {
            sum += x.orders(12, 12, 4, k);
        }
        check.is("all orders of 12 and 12", sum, 2704156);
    }

    private static void allChances() {
        check.part("chances");
        for (String rows : new String[] {"", "..", "..........", ".............................."}) {
            for (int m = 0; m <= 12; m += m < 4 ? 1 : 4) {
                for (int t = 0; t <= 10; t++) {
                    RavelKnit x = Check.knitted(rows);
                    java.math.BigInteger[] shares = Model.shares(rows.length(), m, t);
                    for (int k = -1; k <= 50; k++) {
                        java.math.BigInteger upper = Model.sum(shares, k);
                        java.math.BigInteger lower = java.math.BigInteger.TEN.pow(m);
                        java.math.BigInteger shared = upper.gcd(lower);
                        check.is("chance(" + m + ", " + t + ", " + k + ", 0)", x.chance(m, t, k, 0), upper.divide(shared).longValueExact());
                        check.is("chance(" + m + ", " + t + ", " + k + ", 1)", x.chance(m, t, k, 1), lower.divide(shared).longValueExact());
                    }
                }
            }
        }
    }

    /** Each text of so many rows is tried: what patterns() counts is what made() says can be made. */
    private static void allPatterns() {
        check.part("patterns");
        String[] parts = {"A", "A*", "B", "B*", "C", "C*", "D", "D*", "E", "E*", "F", "F*", "m"};
        for (int honest = 0; honest <= 6; honest += 2) {
            int[] many = new int[4];
            RavelKnit x = null;
            for (int text = 0; text < 13 * 13 * 13 * 4; text++) {
                if (text % 50 == 0) {
                    x = new RavelKnit();
                    for (int guest = 0; guest < honest; guest++) {
                        x.temper(guest, 1);
                    }
                }
                int rows = text % 4;
                int rest = text / 4;
                StringBuilder pattern = new StringBuilder();
                for (int i = 0; i < rows; i++) {
                    pattern.append(parts[rest % 13]);
                    rest /= 13;
                }
                // A text of fewer rows comes often: it counts when nothing is left of its number.
                if (rest == 0 && x != null && Check.pad(x, pattern.toString()).made() != Model.NONE) {
                    many[rows]++;
                }
            }
            for (int k = 0; k < 4; k++) {
                check.is("patterns(" + k + ") with " + honest + " who do not lie", x == null ? -1 : x.patterns(k), many[k]);
            }
        }
    }
}
