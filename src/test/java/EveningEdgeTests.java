/** The edges that the document names in part 2: remarks that can not be, and what an evening leaves. */
public final class EveningEdgeTests {
    private static final int UNKNOWN = -1, STATE = -3, NONE = -6;
    private static final Check check = new Check("edges of evenings");

    public static void main(String[] args) {
        theLeastReason();
        thirtyRows();
        noWidth();
        theFirstThatCanNotBe();
        trueWordsOnNoRow();
        aChildOnNoRow();
        aChildUpToAnotherColour();
        cables();
        whatBreaksACable();
        theTimeAndWidth();
        cameAndWent();
        anEmptyPad();
        kept();
        theHighest();
        lost();
        keptIsWhatIsNotLost();
        rowsBehind();
        done();
        whatDoneLeaves();
        rowsNow();
        check.end();
    }

    private static void is(String call, long got, long due) {
        check.is(call, got, due);
    }

    private static void judged(RavelKnit x, String evening, int remark, int why) {
        Check.pad(x, evening);
        is("judge(0) of " + evening, x.judge(0), remark);
        is("judge(1) of " + evening, x.judge(1), why);
    }

    private static void rows(RavelKnit x, String evening, String due) {
        Check.pad(x, evening);
        check.holds("rows behind " + evening + " are " + due + ", not " + text(x), text(x).equals(due));
    }

    private static String text(RavelKnit x) {
        StringBuilder text = new StringBuilder();
        int count = x.behind(0);
        for (int row = 0; row < count; row++) {
            text.append("ABCDEFm".charAt(x.row(row, 0))).append(new String[] {"", "*", ""}[x.row(row, 1)]);
        }
        return text.toString();
    }

    private static RavelKnit of(int rows, int width, int temper) {
        RavelKnit x = Check.knitted(".".repeat(rows));
        x.width(width);
        x.temper(0, temper);
        return x;
    }

    /** "A REMARK can not be for the least of these reasons": all that can come together. */
    private static void theLeastReason() {
        check.part("reasons");
        String[] remarks = {"Aa-", "Aa+", ".", "?", "!"};
        int[][] byRows = {{0, 29, 30}, {20, 1, 0}};
        for (int rows : byRows[0]) {
            for (int width : byRows[1]) {
                for (int temper = 0; temper <= 2; temper++) {
                    boolean isFull = rows == 30;
                    boolean isNarrow = width == 0;
                    int[] due = {
                        temper == 2 ? 1 : NONE,
                        temper == 1 ? 1 : isFull ? 2 : isNarrow ? 3 : NONE,
                        isFull ? 2 : isNarrow ? 3 : NONE,
                        isNarrow ? 3 : NONE,
                        NONE,
                    };
                    RavelKnit x = of(rows, width, temper);
                    for (int i = 0; i < remarks.length; i++) {
                        Check.pad(x, remarks[i]);
                        String at = remarks[i] + " on " + rows + " rows, width " + width + ", temper " + temper;
                        is("judge(0) of " + at, x.judge(0), due[i] == NONE ? NONE : 0);
                        is("judge(1) of " + at, x.judge(1), due[i]);
                    }
                }
            }
        }
    }

    /** "2 there are 30 ROWS (a lie, silence)". */
    private static void thirtyRows() {
        check.part("thirty rows");
        RavelKnit x = of(28, 20, 0);
        judged(x, "..", NONE, NONE);
        judged(x, "...", 2, 2);
        judged(x, "..Aa+", 2, 2);
        judged(x, ".Aa+.", 2, 2);
        judged(x, "..?!", NONE, NONE);
        judged(x, "..Aa-.", NONE, NONE);
        judged(x, "..Aa-..", 4, 2);
        judged(x, "..!Aa+", NONE, NONE);
        Check.pad(x, "..");
        is("behind(0)", x.behind(0), 30);
        is("behind(3)", x.behind(3), 30);
        is("done()", x.done(), 2);
        is("rows", x.told(3), 30);
        is("the last of them", x.state(29, 0), 6);
        is("one more", x.state(30, 0), UNKNOWN);
    }

    /** "3 WIDTH is 0 (a lie, silence, the time)". */
    private static void noWidth() {
        check.part("no width");
        RavelKnit x = of(2, 1, 0);
        judged(x, ".Aa+", NONE, NONE);
        judged(x, "?", NONE, NONE);
        judged(x, "?.", 1, 3);
        judged(x, "?Aa+", 1, 3);
        judged(x, "??", 1, 3);
        judged(x, "?Aa-!!", NONE, NONE);
        judged(x, "?Aa-!!.", 4, 3);
        Check.pad(x, "?");
        is("behind(1)", x.behind(1), 0);
        is("done()", x.done(), 1);
        is("width", x.told(4), 0);
        judged(x, "Aa-!", NONE, NONE);
        judged(x, "", NONE, NONE);
    }

    /** "the first REMARK (from 0 on) that can not be". */
    private static void theFirstThatCanNotBe() {
        check.part("the first");
        RavelKnit x = of(0, 0, 1);
        judged(x, ".Aa+", 0, 3);
        judged(x, "Aa+.", 0, 1);
        judged(x, "!Aa-.Aa+", 2, 3);
        judged(x, "!".repeat(59) + "?", 59, 3);
        judged(x, "Aa-".repeat(19) + "Aa+", 19, 1);
        judged(x, "!".repeat(60), NONE, NONE);
        x.width(20);
        judged(x, ".Aa+", 1, 1);
        x.temper(0, 0);
        judged(x, ".Aa+", NONE, NONE);
    }

    /** "the topmost ROW goes (if there is any)". */
    private static void trueWordsOnNoRow() {
        check.part("true words on no row");
        RavelKnit x = new RavelKnit();
        judged(x, "Aa-", NONE, NONE);
        is("judge(3)", x.judge(3), 0);
        is("behind(0)", x.behind(0), 0);
        rows(x, "Aa-Aa-Ba+", "B");
        is("judge(3)", x.judge(3), 0);
        rows(x, "Ba+Aa-Aa-Aa-", "");
        is("judge(2)", x.judge(2), 1);
        is("judge(3), the one that there was", x.judge(3), 1);
        is("done()", x.done(), 4);
        is("rows", x.told(3), 0);
        x = Check.knitted("Ba+");
        rows(x, "Aa-", "");
        is("judge(3), the only row", x.judge(3), 1);
        is("lost(0)", x.lost(0), 0);
    }

    private static void aChildOnNoRow() {
        check.part("a child on no row");
        RavelKnit x = new RavelKnit();
        judged(x, "!", NONE, NONE);
        is("judge(2)", x.judge(2), 0);
        is("judge(3)", x.judge(3), 0);
        is("behind(0)", x.behind(0), 0);
        rows(x, "!!.", "m");
        rows(x, ".!!", "");
        is("judge(3)", x.judge(3), 1);
        Check.pad(x, "!");
        is("done()", x.done(), 1);
        x.width(0);
        judged(x, "!", NONE, NONE);
    }

    /** "the topmost ROW goes, and those below it that are of its COLOUR, up to the first of another one". */
    private static void aChildUpToAnotherColour() {
        check.part("a child");
        RavelKnit x = new RavelKnit();
        rows(x, "Aa+!", "");
        rows(x, "Aa+Aa+Aa+!", "");
        rows(x, "Aa+Ba+!", "A");
        rows(x, "Aa+Ba+Aa+!", "AB");
        rows(x, "Aa+Ba+Ba+?Ba+!", "A");
        rows(x, "Ba+Aa+Aa+.!", "BAA*");
        rows(x, "Ba+...!", "B");
        rows(x, "Fa+.Aa+!!", "F");
        rows(x, "Aa+Ba+.!!!!", "");
        x = Check.knitted("Aa+".repeat(20));
        Check.knit(x, "Aa+".repeat(10));
        Check.pad(x, "!");
        is("all thirty of one colour", x.judge(3), 30);
        is("none is left", x.behind(0), 0);
        is("none is kept", x.behind(2), 0);
        is("lost(0)", x.lost(0), 0);
        is("lost(29)", x.lost(29), 0);
    }

    /** "a cable, if the REMARK right ahead in the EVENING was a lie of the same GUEST". */
    private static void cables() {
        check.part("cables");
        RavelKnit x = new RavelKnit();
        x.fact(1, true);
        rows(x, "Aa+Aa+", "AA*");
        rows(x, "Aa+Ab-", "AA*");
        rows(x, "Aa+Aa+Aa+", "AA*A*");
        rows(x, "Fc+Fd+", "FF*");
        rows(x, "Aa+", "A");
        rows(x, ".Aa+Aa+", "mAA*");
        rows(x, "Aa+".repeat(20), "A" + "A*".repeat(19));
    }

    /** Anything between two lies, and the end of an evening. */
    private static void whatBreaksACable() {
        check.part("what breaks a cable");
        RavelKnit x = new RavelKnit();
        rows(x, "Aa+Ba+", "AB");
        rows(x, "Aa+Ba+Aa+", "ABA");
        rows(x, "Aa+.Aa+", "AmA");
        rows(x, "Aa+?Aa+", "AA");
        rows(x, "Aa+!Aa+", "A");
        rows(x, "Aa+Aa-Aa+", "A");
        rows(x, "Aa+Ba-Aa+", "A");
        rows(x, "Aa-Aa+", "A");
        rows(x, "Aa+Aa+Ba-Aa+", "AA");
        rows(x, "Aa+Aa+?Aa+Aa+", "AA*AA*");
        rows(x, "Aa+.!Aa+", "AA");
        x = Check.knitted("Aa+");
        rows(x, "Aa+", "AA");
        rows(x, "Aa+Aa+", "AAA*");
        // The row below does not matter, only the remark ahead.
        rows(x, "Ba+Ba-Aa+", "AA");
        Check.pad(x, "");
        x.done();
        rows(x, "Aa+", "AA");
        x.image(0);
        Check.knit(x, "Aa+");
        x.restore(0);
        rows(x, "Aa+", "AA");
    }

    /** "The time: WIDTH is 1 less." */
    private static void theTimeAndWidth() {
        check.part("the time");
        RavelKnit x = Check.knitted("Aa+");
        x.width(3);
        Check.pad(x, ".?.?.");
        is("width of row 0", x.row(0, 2), 20);
        is("width of row 1", x.row(1, 2), 3);
        is("width of row 2", x.row(2, 2), 2);
        is("width of row 3, the narrowest that there is", x.row(3, 2), 1);
        is("behind(1)", x.behind(1), 1);
        is("told(4)", x.told(4), 3);
        Check.pad(x, "?!");
        is("a child gives none back", x.behind(1), 2);
    }

    /** "how many ROWS came in all, how many went". */
    private static void cameAndWent() {
        check.part("came and went");
        RavelKnit x = Check.knitted("..");
        String[] evenings = {"", "?", ".", "Aa-", "!", ".Aa-", "Aa-.", ".!", "Aa+Ba+!!!Aa+", ".!".repeat(30)};
        int[] came = {0, 0, 1, 0, 0, 1, 1, 1, 3, 30};
        int[] went = {0, 0, 0, 1, 2, 1, 1, 3, 4, 32};
        for (int i = 0; i < evenings.length; i++) {
            Check.pad(x, evenings[i]);
            is("judge(2) of " + evenings[i], x.judge(2), came[i]);
            is("judge(3) of " + evenings[i], x.judge(3), went[i]);
            is("behind(0) of " + evenings[i], x.behind(0), 2 + came[i] - went[i]);
        }
    }

    private static void anEmptyPad() {
        check.part("an empty pad");
        for (int rows : new int[] {0, 1, 29, 30}) {
            RavelKnit x = Check.knitted(".".repeat(rows));
            x.width(0);
            x.temper(0, 1);
            is("judge(0)", x.judge(0), NONE);
            is("judge(1)", x.judge(1), NONE);
            is("judge(2)", x.judge(2), 0);
            is("judge(3)", x.judge(3), 0);
            is("behind(0)", x.behind(0), rows);
            is("behind(1)", x.behind(1), 0);
            is("behind(2)", x.behind(2), rows);
            is("behind(3)", x.behind(3), rows);
            is("row(last, 0)", x.row(rows - 1, 0), rows == 0 ? UNKNOWN : 6);
            is("row(last, 1)", x.row(rows - 1, 1), rows == 0 ? UNKNOWN : 2);
            is("row(last, 2)", x.row(rows - 1, 2), rows == 0 ? UNKNOWN : 20);
            is("row(one more, 0)", x.row(rows, 0), UNKNOWN);
            is("lost(last)", x.lost(rows - 1), rows == 0 ? UNKNOWN : NONE);
            is("lost(one more)", x.lost(rows), UNKNOWN);
            is("done()", x.done(), 0);
            is("rows then", x.told(3), rows);
        }
    }

    /** "how many of the ROWS that there are now stay to the end (are never gone)". */
    private static void kept() {
        check.part("kept");
        RavelKnit x = Check.knitted("Aa+Ba+Ba+");
        String[] evenings = {"", ".", ".Aa-", "Aa-", "Aa-Ba+", "!", "!Ba+Ba+", "!!", "!!Aa+", "!!!", "Aa-.Aa-.", ".!!..!!", "?"};
        int[] due = {3, 3, 3, 2, 2, 1, 1, 0, 0, 0, 2, 0, 3};
        for (int i = 0; i < evenings.length; i++) {
            Check.pad(x, evenings[i]);
            is("behind(2) of " + evenings[i], x.behind(2), due[i]);
        }
    }

    /** "the most ROWS behind any REMARK of it (or now)". */
    private static void theHighest() {
        check.part("the highest");
        RavelKnit x = Check.knitted("Aa+Ba+Ba+");
        String[] evenings = {"", "?", ".", "Aa-", "!", "!.", "!..", "!...", ".!", "..!!", "Aa-..Aa-", "!!!"};
        int[] due = {3, 3, 4, 3, 3, 3, 3, 4, 4, 5, 4, 3};
        for (int i = 0; i < evenings.length; i++) {
            Check.pad(x, evenings[i]);
            is("behind(3) of " + evenings[i], x.behind(3), due[i]);
        }
        x = Check.knitted(".".repeat(29));
        Check.pad(x, ".!");
        is("thirty, on the way", x.behind(3), 30);
        is("none, in the end", x.behind(0), 0);
        x = new RavelKnit();
        Check.pad(x, "!".repeat(59) + ".");
        is("behind the last of sixty", x.behind(3), 1);
        Check.pad(x, "!");
        is("none at all", x.behind(3), 0);
    }

    /** "the REMARK by which a ROW that there is now goes for good (NONE: it stays)". */
    private static void lost() {
        check.part("lost");
        RavelKnit x = Check.knitted("Aa+");
        Check.pad(x, "Aa-");
        is("by the first", x.lost(0), 0);
        Check.pad(x, "!");
        is("by the first, a child", x.lost(0), 0);
        Check.pad(x, "!Aa+");
        is("one of its colour in its place", x.lost(0), 0);
        Check.pad(x, ".!?Aa-");
        is("by the last", x.lost(0), 3);
        Check.pad(x, ".!");
        is("it stays", x.lost(0), NONE);
        Check.pad(x, "Aa+!");
        is("with another of its colour", x.lost(0), 1);
        Check.pad(x, "?" + ".!".repeat(29) + "!");
        is("by the last of sixty", x.lost(0), 59);
        is("there is no other", x.lost(1), UNKNOWN);
        Check.pad(x, "...");
        is("a row that comes is not there now", x.lost(1), UNKNOWN);
        x = Check.knitted(".".repeat(30));
        Check.pad(x, "Aa-");
        is("the top of thirty", x.lost(29), 0);
        is("the one below it", x.lost(28), NONE);
        is("one more", x.lost(30), UNKNOWN);
    }

    private static void keptIsWhatIsNotLost() {
        check.part("kept and lost");
        RavelKnit x = Check.knitted("Aa+Ba+Ba+.");
        for (String evening : new String[] {"", ".", "Aa-.", "!!.", "Aa-Aa-Aa-", ".!!!..", "!!!", "!!Ba+Ba+.", "Aa-Aa-..!!"}) {
            Check.pad(x, evening);
            int kept = x.behind(2);
            for (int row = 0; row < 4; row++) {
                check.holds("lost(" + row + ") of " + evening + " fits behind(2)", x.lost(row) == NONE == row < kept);
            }
        }
    }

    /** "UNKNOWN (behind that): there is no such ROW": behind the evening, not now. */
    private static void rowsBehind() {
        check.part("rows behind");
        RavelKnit x = Check.knitted("Aa+.");
        Check.pad(x, "?Ba+Ba+");
        is("row(3, 0)", x.row(3, 0), 1);
        is("row(3, 1)", x.row(3, 1), 1);
        is("row(3, 2)", x.row(3, 2), 19);
        is("row(4, 0)", x.row(4, 0), UNKNOWN);
        is("row(-1, 0)", x.row(-1, 0), UNKNOWN);
        is("state(2, 0), not yet", x.state(2, 0), UNKNOWN);
        Check.pad(x, "!!");
        is("row(0, 0), no more", x.row(0, 0), UNKNOWN);
        is("state(0, 0), still", x.state(0, 0), 0);
        x = Check.knitted(".".repeat(29));
        Check.pad(x, "Fa+");
        is("row(29, 0)", x.row(29, 0), 5);
        is("row(30, 0)", x.row(30, 0), UNKNOWN);
    }

    /** "The EVENING is DONE (the PAD is empty then): REMARKS." */
    private static void done() {
        check.part("done");
        RavelKnit x = new RavelKnit();
        is("done() of none", x.done(), 0);
        Check.say(x, "Aa+");
        is("done() of one", x.done(), 1);
        is("told(0)", x.told(0), 0);
        is("done() again, of none", x.done(), 0);
        is("rows", x.told(3), 1);
        Check.say(x, ".!".repeat(30));
        is("done() of sixty", x.done(), 60);
        is("told(0)", x.told(0), 0);
        Check.say(x, "Ba+".repeat(20));
        is("done() of twenty, of sixty signs", x.done(), 20);
        is("rows", x.told(3), 21);
        Check.say(x, ".".repeat(9));
        is("done()", x.done(), 9);
        Check.say(x, ".");
        is("done() of a row too many", x.done(), STATE);
        is("the pad stays", x.told(0), 1);
        is("the rows stay", x.told(3), 30);
    }

    private static void whatDoneLeaves() {
        check.part("what done leaves");
        RavelKnit x = Scene.RICH.make();
        is("done()", x.done(), 4);
        is("told(0)", x.told(0), 0);
        is("facts", x.told(1), 6);
        is("those that are so", x.told(2), 34);
        is("rows", x.told(3), 7);
        is("width", x.told(4), 5);
        is("sights", x.told(5), 2);
        is("temper of A", x.told(10), 1);
        is("temper of F", x.told(15), 2);
        is("worlds(0), by the sights that stay", x.worlds(0), 0);
        is("restore(0)", x.restore(0), 1);
        is("rows of the image", x.told(3), 4);
    }

    /** "Of a ROW now". */
    private static void rowsNow() {
        check.part("rows now");
        RavelKnit x = new RavelKnit();
        is("state(0, 0) of none", x.state(0, 0), UNKNOWN);
        Check.knit(x, "Aa+Fa+Fa+.");
        int[][] due = {{0, 0, 20}, {5, 0, 20}, {5, 1, 20}, {6, 2, 20}};
        for (int row = 0; row < 4; row++) {
            for (int what = 0; what < 3; what++) {
                is("state(" + row + ", " + what + ")", x.state(row, what), due[row][what]);
            }
        }
        is("state(4, 0)", x.state(4, 0), UNKNOWN);
        is("state(-1, 0)", x.state(-1, 0), UNKNOWN);
        Check.knit(x, "Aa-");
        is("state(3, 0), gone", x.state(3, 0), UNKNOWN);
        is("state(2, 1), there", x.state(2, 1), 1);
    }
}
