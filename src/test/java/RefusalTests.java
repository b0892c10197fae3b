/**
 * What is refused, in objects of all kinds: the last value that is taken and the first that is not
 * on each side, that a refused call leaves all answers as they were, and which of two refusals
 * comes first.
 */
public final class RefusalTests {
    private static final int UNKNOWN = -1, OUTSIDE = -2, STATE = -3, FULL = -4, NO = -5;
    private static final long GONE = -1000000000000000000L;
    private static final int LEAST = Integer.MIN_VALUE, MOST = Integer.MAX_VALUE;
    private static final int NOWHERE = 99;
    private static final Check check = new Check("refusals");

    private interface Call {
        long of(RavelKnit x);
    }

    private interface CallWith {
        long of(RavelKnit x, int v);
    }

    public static void main(String[] args) {
        for (Scene scene : Scene.values()) {
            check.part(scene.toString());
            boundsOfSettings(scene);
            boundsOfRows(scene);
            boundsOfTexts(scene);
            boundsOfOrders(scene);
            boundsOfChances(scene);
            boundsOfImages(scene);
        }
        signsThatAreTaken();
        settingsThatAreTaken();
        guestsAndRowsFirst();
        faultsAndEvenings();
        rowsBehindAnEvening();
        faultsAndPatterns();
        faultsAndWorlds();
        whatIsFull();
        imagesNotKept();
        refusedFractions();
        check.end();
    }

    // ---- each number's bounds

    /** Values near both bounds, far ones, and those that would be within if they were cut to fewer bits. */
    private static int[] around(int least, int most) {
        return new int[] {
            least - 3, least - 2, least - 1, least, least + 1, most - 1, most, most + 1, most + 2, most + 3,
            LEAST, LEAST + 1, MOST - 1, MOST, least ^ LEAST, most ^ LEAST, least + 256, most - 256,
            least + 65536, most - 65536, most + 32, least - 32, -most - 1,
        };
    }

    /** Within the bounds it is not refused so; without, it is, and nothing changes. */
    private static void bounds(Scene scene, String call, int least, int most, long refusal, CallWith made) {
        for (int v : around(least, most)) {
            RavelKnit x = scene.make();
            long got = made.of(x, v);
            String of = call + " with v = " + v;
            if (v >= least && v <= most) {
                check.holds(of + " is not refused", got != refusal);
            } else {
                check.is(of, got, refusal);
                check.holds(of + " leaves all answers as they were", Scene.answersOf(x).equals(scene.answers()));
            }
        }
    }

    private static void boundsOfSettings(Scene scene) {
        int facts = scene.make().told(1);
        bounds(scene, "facts(v)", 1, 8, OUTSIDE, (x, v) -> x.facts(v));
        bounds(scene, "fact(v, true)", 0, facts - 1, UNKNOWN, (x, v) -> x.fact(v, true));
        bounds(scene, "fact(v, false)", 0, facts - 1, UNKNOWN, (x, v) -> x.fact(v, false));
        bounds(scene, "temper(v, 2)", 0, 5, UNKNOWN, (x, v) -> x.temper(v, 2));
        bounds(scene, "temper(v, 3)", 0, 5, UNKNOWN, (x, v) -> x.temper(v, 3));
        bounds(scene, "temper(0, v)", 0, 2, OUTSIDE, (x, v) -> x.temper(0, v));
        bounds(scene, "temper(5, v)", 0, 2, OUTSIDE, (x, v) -> x.temper(5, v));
        bounds(scene, "width(v)", 0, 40, OUTSIDE, (x, v) -> x.width(v));
        bounds(scene, "say(v)", 33, 126, OUTSIDE, (x, v) -> x.say(v));
        bounds(scene, "fault(v)", 0, 1, OUTSIDE, (x, v) -> x.fault(v));
    }

    private static void boundsOfRows(Scene scene) {
        int rows = scene.make().told(3);
        bounds(scene, "judge(v)", 0, 3, OUTSIDE, (x, v) -> x.judge(v));
        bounds(scene, "behind(v)", 0, 3, OUTSIDE, (x, v) -> x.behind(v));
        bounds(scene, "row(0, v)", 0, 2, OUTSIDE, (x, v) -> x.row(0, v));
        bounds(scene, "row(99, v)", 0, 2, OUTSIDE, (x, v) -> x.row(NOWHERE, v));
        bounds(scene, "lost(v)", 0, rows - 1, UNKNOWN, (x, v) -> x.lost(v));
        bounds(scene, "state(v, 0)", 0, rows - 1, UNKNOWN, (x, v) -> x.state(v, 0));
        bounds(scene, "state(v, 3)", 0, rows - 1, UNKNOWN, (x, v) -> x.state(v, 3));
        if (rows > 0) {
            bounds(scene, "state(0, v)", 0, 2, OUTSIDE, (x, v) -> x.state(0, v));
            bounds(scene, "state(last, v)", 0, 2, OUTSIDE, (x, v) -> x.state(rows - 1, v));
        }
        int behind = scene.make().behind(0);
        if (behind >= 0) {
            bounds(scene, "row(v, 0)", 0, behind - 1, UNKNOWN, (x, v) -> x.row(v, 0));
            bounds(scene, "row(v, 2)", 0, behind - 1, UNKNOWN, (x, v) -> x.row(v, 2));
        }
    }

    private static void boundsOfTexts(Scene scene) {
        bounds(scene, "seen(v, 0)", 0, 60, OUTSIDE, (x, v) -> x.seen(v, 0));
        bounds(scene, "seen(0, v)", 0, 30, OUTSIDE, (x, v) -> x.seen(0, v));
        bounds(scene, "seen(60, v)", 0, 30, OUTSIDE, (x, v) -> x.seen(60, v));
        bounds(scene, "worlds(v)", 0, 3, OUTSIDE, (x, v) -> x.worlds(v));
        bounds(scene, "tell(v)", 0, 1, OUTSIDE, (x, v) -> x.tell(v));
        bounds(scene, "says(v)", 0, 5, UNKNOWN, (x, v) -> x.says(v));
    }

    private static void boundsOfOrders(Scene scene) {
        bounds(scene, "orders(v, 2, 3, 3)", 0, 12, GONE - 2, (x, v) -> x.orders(v, 2, 3, 3));
        bounds(scene, "orders(2, v, 3, 3)", 0, 12, GONE - 2, (x, v) -> x.orders(2, v, 3, 3));
        bounds(scene, "orders(2, 2, v, 3)", 0, 30, GONE - 2, (x, v) -> x.orders(2, 2, v, 3));
        bounds(scene, "orders(2, 2, 3, v)", 0, 50, GONE - 2, (x, v) -> x.orders(2, 2, 3, v));
        bounds(scene, "left(v, 2, 3, 0)", 0, 12, OUTSIDE, (x, v) -> x.left(v, 2, 3, 0));
        bounds(scene, "left(2, v, 3, 1)", 0, 12, OUTSIDE, (x, v) -> x.left(2, v, 3, 1));
        bounds(scene, "left(2, 2, v, 1)", 0, 30, OUTSIDE, (x, v) -> x.left(2, 2, v, 1));
        bounds(scene, "left(2, 2, 3, v)", 0, 1, OUTSIDE, (x, v) -> x.left(2, 2, 3, v));
    }

    private static void boundsOfChances(Scene scene) {
        bounds(scene, "chance(v, 5, 1, 0)", 0, 12, GONE - 2, (x, v) -> x.chance(v, 5, 1, 0));
        bounds(scene, "chance(3, v, 1, 1)", 0, 10, GONE - 2, (x, v) -> x.chance(3, v, 1, 1));
        bounds(scene, "chance(3, 5, v, 0)", -1, 50, GONE - 2, (x, v) -> x.chance(3, 5, v, 0));
        bounds(scene, "chance(3, 5, v, 1)", -1, 50, GONE - 2, (x, v) -> x.chance(3, 5, v, 1));
        bounds(scene, "chance(3, 5, 1, v)", 0, 1, GONE - 2, (x, v) -> x.chance(3, 5, 1, v));
        bounds(scene, "chance(3, 5, -1, v)", 0, 1, GONE - 2, (x, v) -> x.chance(3, 5, -1, v));
        bounds(scene, "over(v, 5, 1, 1, 2)", 0, 12, OUTSIDE, (x, v) -> x.over(v, 5, 1, 1, 2));
        bounds(scene, "over(3, v, 1, 1, 2)", 0, 10, OUTSIDE, (x, v) -> x.over(3, v, 1, 1, 2));
        bounds(scene, "over(3, 5, v, 1, 2)", 0, 50, OUTSIDE, (x, v) -> x.over(3, 5, v, 1, 2));
        bounds(scene, "over(3, 5, 1, v, 7)", 0, 7, OUTSIDE, (x, v) -> x.over(3, 5, 1, v, 7));
        bounds(scene, "over(3, 5, 1, v, 100)", 0, 100, OUTSIDE, (x, v) -> x.over(3, 5, 1, v, 100));
        bounds(scene, "over(3, 5, 1, v, 1)", 0, 1, OUTSIDE, (x, v) -> x.over(3, 5, 1, v, 1));
        bounds(scene, "over(3, 5, 1, 0, v)", 1, 100, OUTSIDE, (x, v) -> x.over(3, 5, 1, 0, v));
        bounds(scene, "over(3, 5, 1, 6, v)", 6, 100, OUTSIDE, (x, v) -> x.over(3, 5, 1, 6, v));
        bounds(scene, "patterns(v)", 0, 8, OUTSIDE, (x, v) -> x.patterns(v));
        bounds(scene, "draws(v, 20, 0)", 0, 9999, OUTSIDE, (x, v) -> x.draws(v, 20, 0));
        bounds(scene, "draws(7, v, 1)", 1, 99, OUTSIDE, (x, v) -> x.draws(7, v, 1));
        bounds(scene, "draws(7, 20, v)", 0, 2, OUTSIDE, (x, v) -> x.draws(7, 20, v));
    }

    private static void boundsOfImages(Scene scene) {
        bounds(scene, "image(v)", 0, 1, OUTSIDE, (x, v) -> x.image(v));
        bounds(scene, "restore(v)", 0, 1, OUTSIDE, (x, v) -> x.restore(v));
        bounds(scene, "told(v), upward", 0, 5, OUTSIDE, (x, v) -> x.told(v >= 10 && v <= 15 ? LEAST : v));
        bounds(scene, "told(v), of tempers", 10, 15, OUTSIDE, (x, v) -> x.told(v >= 0 && v <= 5 ? LEAST : v));
    }

    // ---- the same, of single sentences

    /** The answer is due, and all others are as they would be without the call. */
    private static void refused(Scene scene, String call, long due, Call made) {
        RavelKnit x = scene.make();
        String of = call + " of " + scene;
        check.is(of, made.of(x), due);
        check.holds(of + " leaves all answers as they were", Scene.answersOf(x).equals(scene.answers()));
    }

    /** "a sign that is said changes what fault() tells": one that can not stand there, too. */
    private static void signsThatAreTaken() {
        check.part("signs that are said");
        RavelKnit x = new RavelKnit();
        int[][] due = {{'A', 1, -6}, {'a', 2, 1}, {'+', -6, 1}, {'*', 3, 1}, {'A', 3, 1}};
        for (int i = 0; i < due.length; i++) {
            check.is("say, sign " + i, x.say(due[i][0]), i + 1);
            check.is("fault(0) behind sign " + i, x.fault(0), due[i][1]);
            check.is("fault(1) behind sign " + i, x.fault(1), due[i][2]);
            check.is("say(32)", x.say(32), OUTSIDE);
            check.is("say(127)", x.say(127), OUTSIDE);
            check.is("fault(0) behind what is refused", x.fault(0), due[i][1]);
            check.is("fault(1) behind what is refused", x.fault(1), due[i][2]);
        }
        check.is("signs", x.told(0), 5);
    }

    /** What is within is taken in fact, at both ends. */
    private static void settingsThatAreTaken() {
        check.part("what is taken");
        RavelKnit x = new RavelKnit();
        x.facts(1);
        check.is("told(1)", x.told(1), 1);
        x.facts(8);
        check.is("told(1)", x.told(1), 8);
        x.width(0);
        check.is("told(4)", x.told(4), 0);
        x.width(40);
        check.is("told(4)", x.told(4), 40);
        x.temper(0, 2);
        x.temper(5, 1);
        check.is("told(10)", x.told(10), 2);
        check.is("told(15)", x.told(15), 1);
        x.temper(0, 0);
        x.temper(5, 2);
        check.is("told(10)", x.told(10), 0);
        check.is("told(15)", x.told(15), 2);
        check.is("fact(0)", x.fact(0, true), 1);
        check.is("fact(7)", x.fact(7, true), 129);
    }

    /** Of two that fit, UNKNOWN comes ahead of all, then OUTSIDE. */
    private static void guestsAndRowsFirst() {
        check.part("which comes first");
        refused(Scene.RICH, "temper(6, 3)", UNKNOWN, x -> x.temper(6, 3));
        refused(Scene.RICH, "temper(-1, -1)", UNKNOWN, x -> x.temper(-1, -1));
        refused(Scene.RICH, "state(6, 3)", UNKNOWN, x -> x.state(6, 3));
        refused(Scene.RICH, "state(-1, -1)", UNKNOWN, x -> x.state(-1, -1));
        refused(Scene.NEW, "state(0, 3)", UNKNOWN, x -> x.state(0, 3));
        refused(Scene.BROKEN, "lost(6)", UNKNOWN, x -> x.lost(6));
        refused(Scene.BARRED, "lost(6)", UNKNOWN, x -> x.lost(6));
        refused(Scene.BROKEN, "says(6)", UNKNOWN, x -> x.says(6));
        refused(Scene.BROKEN, "says(-1)", UNKNOWN, x -> x.says(-1));
        refused(Scene.FULL, "say(32)", OUTSIDE, x -> x.say(32));
        refused(Scene.FULL, "say(127)", OUTSIDE, x -> x.say(127));
        refused(Scene.FULL, "seen(61, 0)", OUTSIDE, x -> x.seen(61, 0));
        refused(Scene.FULL, "seen(0, 31)", OUTSIDE, x -> x.seen(0, 31));
        refused(Scene.FULL, "seen(-1, -1)", OUTSIDE, x -> x.seen(-1, -1));
        refused(Scene.NEW, "restore(2)", OUTSIDE, x -> x.restore(2));
        refused(Scene.NEW, "restore(-1)", OUTSIDE, x -> x.restore(-1));
    }

    /** OUTSIDE, then NO, then STATE. */
    private static void faultsAndEvenings() {
        check.part("evenings that are refused");
        for (Scene scene : new Scene[] {Scene.BROKEN, Scene.BARRED_AND_BROKEN, Scene.BARRED}) {
            int refusal = scene == Scene.BARRED ? STATE : NO;
            refused(scene, "judge(4)", OUTSIDE, x -> x.judge(4));
            refused(scene, "behind(4)", OUTSIDE, x -> x.behind(4));
            for (int what = 0; what < 4; what++) {
                int k = what;
                refused(scene, "behind(" + k + ")", refusal, x -> x.behind(k));
            }
            refused(scene, "judge(2)", refusal, x -> x.judge(2));
            refused(scene, "judge(3)", refusal, x -> x.judge(3));
            refused(scene, "lost(0)", refusal, x -> x.lost(0));
            refused(scene, "lost(5)", refusal, x -> x.lost(5));
            refused(scene, "done()", refusal, x -> x.done());
        }
        refused(Scene.BROKEN, "judge(0)", NO, x -> x.judge(0));
        refused(Scene.BROKEN, "judge(1)", NO, x -> x.judge(1));
        refused(Scene.BARRED_AND_BROKEN, "judge(0)", NO, x -> x.judge(0));
        refused(Scene.BARRED_AND_BROKEN, "judge(1)", NO, x -> x.judge(1));
        refused(Scene.BARRED, "judge(0), which is not refused,", 2, x -> x.judge(0));
        refused(Scene.BARRED, "judge(1), which is not refused,", 1, x -> x.judge(1));
    }

    /** Of a row behind an evening UNKNOWN comes last. */
    private static void rowsBehindAnEvening() {
        check.part("rows behind what is refused");
        for (int row : new int[] {0, 5, 6, NOWHERE, -1, LEAST, MOST}) {
            String of = "row(" + row + ", ";
            refused(Scene.BROKEN, of + "0)", NO, x -> x.row(row, 0));
            refused(Scene.BARRED_AND_BROKEN, of + "1)", NO, x -> x.row(row, 1));
            refused(Scene.BARRED, of + "2)", STATE, x -> x.row(row, 2));
            for (Scene scene : new Scene[] {Scene.RICH, Scene.BROKEN, Scene.BARRED_AND_BROKEN, Scene.BARRED, Scene.NEW}) {
                refused(scene, of + "3)", OUTSIDE, x -> x.row(row, 3));
                refused(scene, of + "-1)", OUTSIDE, x -> x.row(row, -1));
            }
        }
        // Behind RICH's evening there are seven rows, though now there are six.
        refused(Scene.RICH, "row(7, 0)", UNKNOWN, x -> x.row(7, 0));
        refused(Scene.RICH, "row(-1, 0)", UNKNOWN, x -> x.row(-1, 0));
        refused(Scene.RICH, "row(6, 0), which is not refused,", 5, x -> x.row(6, 0));
        refused(Scene.FULL, "row(9, 0), which is not refused,", 6, x -> x.row(9, 0));
        refused(Scene.FULL, "row(10, 0), though there are thirty now,", UNKNOWN, x -> x.row(10, 0));
    }

    /** NO, then FULL. */
    private static void faultsAndPatterns() {
        check.part("patterns that are refused");
        refused(Scene.BROKEN, "made()", NO, x -> x.made());
        refused(Scene.BROKEN, "bars()", NO, x -> x.bars());
        refused(Scene.RICH, "made() of an evening", NO, x -> x.made());
        refused(Scene.LONG_AND_BROKEN, "made()", NO, x -> x.made());
        refused(Scene.LONG_AND_BROKEN, "bars()", NO, x -> x.bars());
        refused(Scene.LONG_PATTERN, "made()", FULL, x -> x.made());
        refused(Scene.LONG_PATTERN, "bars()", FULL, x -> x.bars());
        refused(Scene.PATTERN, "done() of a pattern", NO, x -> x.done());
    }

    /** OUTSIDE, then NO; what can not be in any world is not refused. */
    private static void faultsAndWorlds() {
        check.part("worlds that are refused");
        for (Scene scene : new Scene[] {Scene.BROKEN, Scene.BARRED_AND_BROKEN, Scene.PATTERN}) {
            for (int what = 0; what < 4; what++) {
                int k = what;
                refused(scene, "worlds(" + k + ")", NO, x -> x.worlds(k));
            }
            refused(scene, "worlds(4)", OUTSIDE, x -> x.worlds(4));
            refused(scene, "worlds(-1)", OUTSIDE, x -> x.worlds(-1));
            refused(scene, "tell(0)", NO, x -> x.tell(0));
            refused(scene, "tell(1)", NO, x -> x.tell(1));
            refused(scene, "tell(2)", OUTSIDE, x -> x.tell(2));
            refused(scene, "tell(-1)", OUTSIDE, x -> x.tell(-1));
            for (int guest = 0; guest < 6; guest++) {
                int k = guest;
                refused(scene, "says(" + k + ")", NO, x -> x.says(k));
            }
        }
        check.holds("worlds(0) of what can not be now", Scene.BARRED.make().worlds(0) >= 0);
        check.is("says(0) of what can not be now", Scene.BARRED.make().says(0), 2);
    }

    private static void whatIsFull() {
        check.part("what is full");
        refused(Scene.FULL, "say('.')", FULL, x -> x.say('.'));
        refused(Scene.FULL, "say('!')", FULL, x -> x.say('!'));
        refused(Scene.FULL, "seen(0, 0)", FULL, x -> x.seen(0, 0));
        refused(Scene.FULL, "seen(60, 30)", FULL, x -> x.seen(60, 30));
    }

    private static void imagesNotKept() {
        check.part("images that were not kept");
        refused(Scene.NEW, "restore(0)", STATE, x -> x.restore(0));
        refused(Scene.NEW, "restore(1)", STATE, x -> x.restore(1));
        refused(Scene.FULL, "restore(0)", STATE, x -> x.restore(0));
        refused(Scene.FULL, "restore(1)", STATE, x -> x.restore(1));
        for (int k = 0; k < 2; k++) {
            RavelKnit x = Check.knitted("Aa+");
            x.image(k);
            x.image(2);
            x.width(3);
            check.is("restore of the other", x.restore(1 - k), STATE);
            check.is("width then", x.told(4), 3);
            check.is("restore of what was kept", x.restore(k), 1);
            check.is("width then", x.told(4), 20);
        }
    }

    /** "GONE and the refusal, added". */
    private static void refusedFractions() {
        check.part("fractions that are refused");
        refused(Scene.RICH, "chance(13, ..)", -1000000000000000002L, x -> x.chance(13, 0, 0, 0));
        refused(Scene.RICH, "chance(.., 2)", -1000000000000000002L, x -> x.chance(0, 0, 0, 2));
        refused(Scene.RICH, "orders(13, ..)", -1000000000000000002L, x -> x.orders(13, 0, 0, 0));
        refused(Scene.RICH, "orders(.., 51)", -1000000000000000002L, x -> x.orders(0, 0, 0, 51));
        refused(Scene.RICH, "all of them", -1000000000000000002L, x -> x.chance(LEAST, MOST, LEAST, MOST));
        refused(Scene.RICH, "all of them", -1000000000000000002L, x -> x.orders(MOST, LEAST, MOST, LEAST));
    }
}
