/** The edges that the document names in part 3: what is made and what bars it, sights and worlds. */
public final class PatternEdgeTests {
    private static final int OUTSIDE = -2, FULL = -4, NO = -5, NONE = -6;
    private static final Check check = new Check("edges of patterns");

    public static void main(String[] args) {
        nothingOnThePad();
        alreadyMade();
        whatStaysAndWhatGoes();
        thirtyRows();
        moreThanThirtyRows();
        guestsWhoDoNotLie();
        guestsWhoOnlyLie();
        noWidth();
        narrowWidths();
        cablesThatCanNotBe();
        theLeastRowThatBars();
        aPartBarredAndTheWholeMade();
        nothingIsMadeInFact();
        eightSights();
        remarksAndRowsOfSights();
        moreRemarksThanTheEvening();
        sightsByWorlds();
        noWorlds();
        oneWorldAndAll();
        worldsByRowsAndWidth();
        factsAsTheyAreDoNotMatter();
        whatToTell();
        says();
        saysTempersLetBe();
        check.end();
    }

    private static void is(String call, long got, long due) {
        check.is(call, got, due);
    }

    private static void made(RavelKnit x, String pattern, int remarks, int bars) {
        Check.pad(x, pattern);
        is("made() of " + pattern, x.made(), remarks);
        is("bars() of " + pattern, x.bars(), bars);
    }

    private static void tempers(RavelKnit x, int v) {
        for (int guest = 0; guest < 6; guest++) {
            x.temper(guest, v);
        }
    }

    private static void nothingOnThePad() {
        check.part("nothing on the pad");
        made(new RavelKnit(), "", 0, NONE);
        made(Check.knitted("Aa+"), "", 1, NONE);
        made(Check.knitted("Aa+Aa+Aa+"), "", 1, NONE);
        made(Check.knitted("Aa+Ba+Aa+"), "", 3, NONE);
        made(Check.knitted(".".repeat(30)), "", 1, NONE);
        RavelKnit x = Check.knitted(".Aa+".repeat(15));
        made(x, "", 30, NONE);
        x.width(0);
        tempers(x, 2);
        made(x, "", 30, NONE);
        tempers(x, 1);
        made(x, "", 30, NONE);
    }

    private static void alreadyMade() {
        check.part("already made");
        RavelKnit x = Check.knitted("?Aa+?Aa+Aa+.");
        tempers(x, 1);
        x.width(0);
        made(x, "AAA*m", 0, NONE);
        made(x, "AAA*", 1, NONE);
        x = Check.knitted(".".repeat(30));
        made(x, "m".repeat(30), 0, NONE);
        x.width(0);
        made(x, "m".repeat(30), 0, NONE);
        made(x, "m".repeat(29), 1, NONE);
        made(x, "m", 29, NONE);
        made(x, "", 1, NONE);
    }

    /** Rows that could stay go all the same, where that takes fewer remarks. */
    private static void whatStaysAndWhatGoes() {
        check.part("what stays and what goes");
        RavelKnit x = Check.knitted("Aa+".repeat(10));
        // By a child and seven more; one row that stays would take nine true words and six more.
        made(x, "AmBCDEF", 8, NONE);
        made(x, "AA*A*A*A*A*A*A*mB", 2 + 2, NONE);
        made(x, "AA*A*A*A*mBCDEF", 5 + 6, NONE);
        made(x, "AA*A*A*mBCDEF", 1 + 4 + 6, NONE);
        made(x, "AA*A*", 1 + 3, NONE);
        made(x, "AA*A*A*A*", 5, NONE);
        made(x, "AA*A*A*A*A*", 4, NONE);
    }

    /** The most rows that a pattern can have. */
    private static void thirtyRows() {
        check.part("thirty rows");
        RavelKnit x = new RavelKnit();
        made(x, "m".repeat(30), 30, NONE);
        made(x, "AB".repeat(15), 30, NONE);
        made(x, "A" + "A*".repeat(29), 30, NONE);
        made(x, "A*".repeat(30), NONE, 0);
        x.width(40);
        made(x, "A".repeat(30), 59, NONE);
        x = Check.knitted("Ba+".repeat(20));
        Check.knit(x, "Ba+".repeat(10));
        made(x, "AB".repeat(15), 31, NONE);
        made(x, "B" + "B*".repeat(19) + "B" + "B*".repeat(8) + "C", 2, NONE);
        // The row that should be a cable can be none upon one that stays: all goes, all comes again.
        made(x, "B" + "B*".repeat(29), 31, NONE);
    }

    /** "FULL: more than 30 ROWS." */
    private static void moreThanThirtyRows() {
        check.part("more than thirty rows");
        RavelKnit x = new RavelKnit();
        made(x, "m".repeat(31), FULL, FULL);
        made(x, "AB".repeat(15) + "A", FULL, FULL);
        made(x, "A".repeat(60), FULL, FULL);
        made(x, "m".repeat(60), FULL, FULL);
        made(x, "A*".repeat(29) + "mm", FULL, FULL);
        made(x, "m".repeat(31) + "*", NO, NO);
        made(x, "m".repeat(59) + "x", NO, NO);
        x.width(0);
        made(x, "m".repeat(31), FULL, FULL);
        x = Check.knitted(".".repeat(30));
        made(x, "m".repeat(31), FULL, FULL);
    }

    /** "GUESTS say what their TEMPER lets them". */
    private static void guestsWhoDoNotLie() {
        check.part("guests who do not lie");
        for (int guest = 0; guest < 6; guest++) {
            char letter = "ABCDEF".charAt(guest);
            char other = "BCDEFA".charAt(guest);
            RavelKnit x = new RavelKnit();
            x.temper(guest, 1);
            made(x, "" + letter, NONE, 0);
            made(x, other + "m" + letter, NONE, 2);
            made(x, "" + other + other, 3, NONE);
            x.temper(guest, 2);
            made(x, "" + letter, 1, NONE);
            x.temper(guest, 0);
            made(x, "" + letter, 1, NONE);
        }
        RavelKnit x = Check.knitted("Aa+Aa+");
        tempers(x, 1);
        made(x, "AA*", 0, NONE);
        made(x, "A", 1, NONE);
        made(x, "AA*mm", 2, NONE);
        made(x, "AA", NONE, 1);
        made(x, "m", 2, NONE);
        made(x, "AmA", NONE, 2);
    }

    private static void guestsWhoOnlyLie() {
        check.part("guests who only lie");
        RavelKnit x = Check.knitted("Aa+?Aa+?Aa+");
        tempers(x, 2);
        // No true words: a child takes all three, then one comes again.
        made(x, "A", 2, NONE);
        made(x, "AA", 4, NONE);
        made(x, "AAA", 0, NONE);
        made(x, "AAAB", 1, NONE);
        x.temper(5, 0);
        made(x, "AA", 1, NONE);
        x.temper(5, 1);
        made(x, "AA", 1, NONE);
        x.temper(5, 2);
        x.width(0);
        made(x, "AA", NONE, 0);
        x.temper(0, 1);
        made(x, "AA", 1, NONE);
    }

    /** A row can come no more; what stays can be made, what goes too. */
    private static void noWidth() {
        check.part("width 0");
        RavelKnit x = new RavelKnit();
        x.width(0);
        made(x, "", 0, NONE);
        made(x, "m", NONE, 0);
        made(x, "A", NONE, 0);
        made(x, "A*", NONE, 0);
        x = Check.knitted("Aa+.Ba+");
        x.width(0);
        made(x, "", 3, NONE);
        made(x, "A", 2, NONE);
        made(x, "Am", 1, NONE);
        made(x, "AmB", 0, NONE);
        made(x, "AmBm", NONE, 3);
        made(x, "AmC", NONE, 2);
        made(x, "B", NONE, 0);
        is("width(1)", x.width(1), 0);
        made(x, "AmBm", 1, NONE);
        made(x, "B", 4, NONE);
    }

    /** The time can be asked as long as a stitch is left for the row behind it. */
    private static void narrowWidths() {
        check.part("widths 1 to 40");
        for (int pauses = 1; pauses <= 3; pauses++) {
            for (int width = 1; width <= 6; width++) {
                RavelKnit x = new RavelKnit();
                x.width(width);
                int byTime = Math.min(pauses, width - 1);
                made(x, "A".repeat(pauses + 1), pauses + 1 + byTime + 2 * (pauses - byTime), NONE);
                made(x, "A" + "A*A".repeat(pauses), 2 * pauses + 1 + byTime + 2 * (pauses - byTime), NONE);
            }
        }
        RavelKnit x = new RavelKnit();
        int[] widths = {30, 29, 28, 2, 1};
        int[] due = {59, 60, 61, 87, 88};
        for (int i = 0; i < widths.length; i++) {
            x.width(widths[i]);
            made(x, "A".repeat(30), due[i], NONE);
        }
        // Thirty rows are there on the way to the last pause by moss.
        x = Check.knitted("?Aa+".repeat(15));
        Check.knit(x, "?Aa+".repeat(4));
        x.width(1);
        made(x, "A".repeat(30), 11 + 20, NONE);
    }

    private static void cablesThatCanNotBe() {
        check.part("cables");
        RavelKnit x = new RavelKnit();
        made(x, "A*", NONE, 0);
        made(x, "BA*", NONE, 1);
        made(x, "mA*", NONE, 1);
        made(x, "AA*BA*", NONE, 3);
        made(x, "AA*A*", 3, NONE);
        x = Check.knitted("Aa+");
        made(x, "AA*", 3, NONE);
        made(x, "AA", 1, NONE);
        x.width(0);
        made(x, "AA*", NONE, 1);
        x = Check.knitted("Aa+Aa+Aa+");
        made(x, "AA*A*", 0, NONE);
        made(x, "AA*A*A*", 5, NONE);
        made(x, "AA*A*A", 1, NONE);
    }

    /** "the least k (0 on)", "NONE: there is no such". */
    private static void theLeastRowThatBars() {
        check.part("bars");
        RavelKnit x = new RavelKnit();
        x.temper(5, 1);
        made(x, "F", NONE, 0);
        made(x, "FF*A*", NONE, 0);
        made(x, "AF", NONE, 1);
        made(x, "m".repeat(29) + "F", NONE, 29);
        made(x, "m".repeat(29) + "A*", NONE, 29);
        made(x, "m".repeat(30), 30, NONE);
        made(x, "mF" + "m".repeat(28), NONE, 1);
        x.width(0);
        made(x, "m".repeat(30), NONE, 0);
    }

    private static void aPartBarredAndTheWholeMade() {
        check.part("a part that is barred");
        RavelKnit x = Check.knitted("Ba+Aa+?Aa+");
        tempers(x, 2);
        x.width(0);
        // One A of two can not be left: no true words, no width.
        made(x, "BAA", 0, 1);
        made(x, "B", 1, NONE);
        x.width(1);
        made(x, "BAA", 0, NONE);
        made(x, "BA", 2, NONE);
    }

    private static void nothingIsMadeInFact() {
        check.part("nothing is made in fact");
        RavelKnit x = Scene.PATTERN.make();
        x.made();
        x.bars();
        check.holds("all answers are as they were", Scene.answersOf(x).equals(Scene.PATTERN.answers()));
    }

    /** "SIGHTS, 8 at most". */
    private static void eightSights() {
        check.part("eight sights");
        RavelKnit x = new RavelKnit();
        for (int i = 1; i <= 7; i++) {
            is("sight " + i, x.seen(0, 0), i);
        }
        is("sight 8, of the last remark and the most rows", x.seen(60, 30), 8);
        is("sight 9", x.seen(0, 0), FULL);
        is("told(5)", x.told(5), 8);
        is("the eighth counts", x.worlds(0), 0);
        is("forget()", x.forget(), 8);
        is("told(5)", x.told(5), 0);
        is("worlds(0)", x.worlds(0), 16);
        is("a sight then", x.seen(0, 1), 1);
        is("worlds(0)", x.worlds(0), 0);
        for (int i = 2; i <= 8; i++) {
            is("sight " + i, x.seen(0, 1), i);
        }
        is("what is refused", x.seen(0, 0), FULL);
        Check.pad(x, ".");
        x.done();
        is("does not count", x.worlds(0), 16);
    }

    private static void remarksAndRowsOfSights() {
        check.part("sights");
        RavelKnit x = new RavelKnit();
        is("seen(-1, 0)", x.seen(-1, 0), OUTSIDE);
        is("seen(61, 0)", x.seen(61, 0), OUTSIDE);
        is("seen(0, -1)", x.seen(0, -1), OUTSIDE);
        is("seen(0, 31)", x.seen(0, 31), OUTSIDE);
        is("told(5)", x.told(5), 0);
        Check.pad(x, "!".repeat(59) + ".");
        is("seen(60, 1)", x.seen(60, 1), 1);
        is("worlds(0)", x.worlds(0), 16);
        is("seen(59, 0)", x.seen(59, 0), 2);
        is("worlds(0)", x.worlds(0), 16);
        is("seen(59, 1)", x.seen(59, 1), 3);
        is("worlds(0)", x.worlds(0), 0);
        x = Check.knitted(".".repeat(30));
        is("seen(0, 30)", x.seen(0, 30), 1);
        is("worlds(0)", x.worlds(0), 16);
        Check.pad(x, "!");
        is("seen(1, 0)", x.seen(1, 0), 2);
        is("worlds(0)", x.worlds(0), 16);
        is("seen(1, 30)", x.seen(1, 30), 3);
        is("worlds(0)", x.worlds(0), 0);
    }

    /** "if it has fewer REMARKS, it is not so". */
    private static void moreRemarksThanTheEvening() {
        check.part("sights beyond the evening");
        RavelKnit x = new RavelKnit();
        x.seen(0, 0);
        is("of none, behind none", x.worlds(0), 16);
        x.seen(1, 0);
        is("of none, behind one", x.worlds(0), 0);
        Check.pad(x, "?");
        is("of one, behind one", x.worlds(0), 16);
        x.seen(2, 0);
        is("of one, behind two", x.worlds(0), 0);
        is("tell(0)", x.tell(0), NONE);
        Check.pad(x, "??");
        is("of two, behind two", x.worlds(0), 16);
        // What an evening before this one left at so many remarks does not count.
        Check.pad(x, "?");
        is("of one again", x.worlds(0), 0);
        Check.pad(x, "Aa+Aa");
        is("of a fault", x.worlds(0), NO);
        x.forget();
        x.seen(20, 0);
        Check.pad(x, "Aa-".repeat(20));
        is("of twenty, of sixty signs", x.worlds(0), 8);
        x.seen(21, 0);
        is("of twenty, behind one more", x.worlds(0), 0);
    }

    private static void sightsByWorlds() {
        check.part("sights by worlds");
        RavelKnit x = Check.knitted("..");
        Check.pad(x, "Aa+Ab+Ac+");
        x.seen(0, 2);
        is("now", x.worlds(0), 16);
        x.seen(1, 1);
        is("a is so", x.worlds(2), 1);
        x.seen(2, 2);
        is("and b is not", x.worlds(3), 1 + 4 + 8);
        is("how many", x.worlds(0), 4);
        x.seen(3, 1);
        is("and c is so", x.worlds(2), 5);
        is("the least", x.worlds(1), 5);
        is("what is open", x.worlds(3), 13);
        x.seen(3, 1);
        is("the same sight again", x.worlds(0), 2);
        x.seen(3, 3);
        is("two that do not go together", x.worlds(0), 0);
    }

    private static void empty(String of, RavelKnit x) {
        is("worlds(0), " + of, x.worlds(0), 0);
        is("worlds(1), " + of, x.worlds(1), NONE);
        is("worlds(2), " + of, x.worlds(2), 0);
        is("worlds(3), " + of, x.worlds(3), 0);
        is("tell(0), " + of, x.tell(0), NONE);
        is("tell(1), " + of, x.tell(1), NONE);
    }

    /** "NONE", "both 0: there are none", "NONE: there are no WORLDS". */
    private static void noWorlds() {
        check.part("no worlds");
        RavelKnit x = new RavelKnit();
        x.seen(0, 1);
        empty("by a sight", x);
        x.forget();
        x.temper(0, 1);
        Check.pad(x, "Aa+Aa-");
        empty("by a temper", x);
        x.temper(0, 2);
        empty("by the other temper", x);
        x.temper(0, 0);
        is("by no temper", x.worlds(0), 16);
        x.width(0);
        Check.pad(x, "?");
        empty("by width", x);
        Check.pad(x, ".");
        empty("by width", x);
        x = Check.knitted(".".repeat(30));
        Check.pad(x, ".");
        empty("by rows", x);
        x.facts(8);
        x.seen(1, 0);
        empty("of eight facts", x);
        x.facts(1);
        x.seen(1, 0);
        empty("of one fact", x);
    }

    private static void worlds(RavelKnit x, int many, int least, int inAll, int inSome) {
        is("worlds(0)", x.worlds(0), many);
        is("worlds(1)", x.worlds(1), least);
        is("worlds(2)", x.worlds(2), inAll);
        is("worlds(3)", x.worlds(3), inSome);
    }

    private static void oneWorldAndAll() {
        check.part("one world, and all");
        RavelKnit x = new RavelKnit();
        x.facts(1);
        worlds(x, 2, 0, 0, 1);
        is("tell(0)", x.tell(0), 0);
        is("tell(1)", x.tell(1), 1);
        x.temper(0, 1);
        Check.pad(x, "Aa+");
        worlds(x, 1, 1, 1, 1);
        Check.pad(x, "Aa-");
        worlds(x, 1, 0, 0, 0);
        is("tell(0) of one world", x.tell(0), 0);
        is("tell(1) of one world", x.tell(1), 1);
        x.facts(8);
        Check.pad(x, "");
        worlds(x, 256, 0, 0, 255);
        is("tell(0) of all", x.tell(0), 0);
        is("tell(1) of all", x.tell(1), 128);
        x.temper(0, 1);
        Check.pad(x, "Aa+Ab+Ac+Ad+Ae+Af+Ag+Ah+");
        worlds(x, 1, 255, 255, 255);
        is("tell(0)", x.tell(0), 0);
        is("tell(1)", x.tell(1), 1);
        x.temper(0, 2);
        worlds(x, 1, 0, 0, 0);
        Check.pad(x, "Ah-");
        worlds(x, 128, 128, 128, 255);
        Check.pad(x, "Ah+");
        worlds(x, 128, 0, 0, 127);
    }

    /** "TEMPERS and ROWS now being as they are". */
    private static void worldsByRowsAndWidth() {
        check.part("worlds by rows and width");
        RavelKnit x = Check.knitted(".".repeat(29));
        Check.pad(x, "Aa+");
        worlds(x, 16, 0, 0, 15);
        Check.pad(x, "Aa+Ab+");
        // A lie and a lie are too many.
        worlds(x, 12, 1, 0, 15);
        Check.knit(x, ".");
        Check.pad(x, "Aa+");
        worlds(x, 8, 1, 1, 15);
        Check.pad(x, "Aa+Ab+");
        worlds(x, 8, 1, 1, 15);
        Check.pad(x, "Aa+.Ab+");
        worlds(x, 4, 3, 3, 15);
        x = new RavelKnit();
        x.width(1);
        Check.pad(x, "Aa+?");
        worlds(x, 16, 0, 0, 15);
        Check.pad(x, "?Aa+");
        worlds(x, 8, 1, 1, 15);
        x.width(0);
        Check.pad(x, "Aa+");
        worlds(x, 8, 1, 1, 15);
        Check.pad(x, "!");
        worlds(x, 16, 0, 0, 15);
    }

    private static void factsAsTheyAreDoNotMatter() {
        check.part("facts as they are");
        RavelKnit x = new RavelKnit();
        x.temper(0, 1);
        Check.pad(x, "Aa+Ab-");
        for (int bits = 0; bits < 16; bits++) {
            for (int fact = 0; fact < 4; fact++) {
                x.fact(fact, (bits >> fact & 1) == 1);
            }
            worlds(x, 4, 1, 1, 13);
            is("tell(0)", x.tell(0), 2);
            is("told(2)", x.told(2), bits);
        }
    }

    /** "fewest WORLDS are left at the most: the least; how many". */
    private static void whatToTell() {
        check.part("tell");
        RavelKnit x = new RavelKnit();
        x.facts(8);
        x.temper(0, 1);
        for (int open = 0; open < 8; open++) {
            String certain = "Aa+Ab-Ac+Ad-Ae+Af-Ag+Ah-";
            Check.pad(x, certain.substring(0, 3 * open) + certain.substring(3 * open + 3));
            is("tell(0), all are certain but one", x.tell(0), open);
            is("tell(1), all are certain but one", x.tell(1), 1);
        }
        Check.pad(x, "Aa+Ab+Ac+Ad+Ae-Af-Ag-");
        is("the last is open", x.tell(0), 7);
        is("how many", x.tell(1), 1);
        Check.pad(x, "Ab+Ac+Ad+Ae-Af-Ag-");
        is("the first and the last are", x.tell(0), 0);
        is("how many", x.tell(1), 2);
        Check.pad(x, "Ah-");
        is("of 128", x.tell(0), 0);
        is("how many", x.tell(1), 64);
        x.facts(2);
        Check.pad(x, "Ba+Ba-Bb+");
        x.seen(3, 0);
        // b is so, a is open.
        is("the open one", x.tell(0), 0);
        is("how many", x.tell(1), 1);
        x = Check.knitted(".".repeat(29));
        Check.pad(x, "Aa+Ab+");
        // Twelve worlds: a is so in eight of them, c in six.
        is("the most even", x.tell(0), 2);
        is("how many", x.tell(1), 6);
        x.facts(3);
        Check.knit(x, ".".repeat(29));
        Check.pad(x, "Aa+Ab+.!Bc+Bc+");
        x.temper(1, 1);
        // All worlds but those where a and b are both not so: c is certain.
        worlds(x, 3, 5, 4, 7);
        is("the least of two that are alike", x.tell(0), 0);
        is("how many", x.tell(1), 2);
    }

    /** "all so (1), all not (2), both (3), nothing (0)". */
    private static void says() {
        check.part("says");
        RavelKnit x = new RavelKnit();
        x.fact(1, true);
        for (int guest = 0; guest < 6; guest++) {
            char letter = "ABCDEF".charAt(guest);
            String[] evenings = {"", ".?!", "Xb+", "Xa+", "Xa-", "Xb-", "Xa-Xb+", "Xa+Xb-", "Xa-.Xa+", "Xb-Xb+"};
            int[] due = {0, 0, 1, 2, 1, 2, 1, 2, 3, 3};
            for (int i = 0; i < evenings.length; i++) {
                Check.pad(x, evenings[i].replace('X', letter));
                for (int other = 0; other < 6; other++) {
                    is("says(" + other + ") of " + evenings[i] + " by " + letter, x.says(other), other == guest ? due[i] : 0);
                }
            }
            x = new RavelKnit();
            x.fact(1, true);
        }
        Check.pad(x, "Aa-".repeat(19) + "Aa+");
        is("the last of twenty", x.says(0), 3);
        Check.pad(x, "Fa-Aa+");
        is("says(5)", x.says(5), 1);
        is("says(6)", x.says(6), -1);
        is("says(-1)", x.says(-1), -1);
        x.say('A');
        is("says(5) of a fault", x.says(5), NO);
    }

    /** "FACTS as they are, TEMPERS let be"; nor do rows and width matter. */
    private static void saysTempersLetBe() {
        check.part("says, whatever bars");
        RavelKnit x = Check.knitted(".".repeat(30));
        x.width(0);
        x.temper(0, 1);
        x.temper(1, 2);
        Check.pad(x, ".Aa+Ba-?Ca+Ca-");
        is("judge(0)", x.judge(0), 0);
        is("says(0)", x.says(0), 2);
        is("says(1)", x.says(1), 1);
        is("says(2)", x.says(2), 3);
        is("says(3)", x.says(3), 0);
        x.fact(0, true);
        is("says(0), of other facts", x.says(0), 1);
        is("says(1), of other facts", x.says(1), 2);
    }
}
