/** The edges that the document names in part 1: facts, guests, rows, width, the pad and its faults. */
public final class FactEdgeTests {
    private static final int UNKNOWN = -1, OUTSIDE = -2, STATE = -3, FULL = -4, NONE = -6;
    private static final String GUESTS = "ABCDEF";
    private static final Check check = new Check("edges of facts");

    public static void main(String[] args) {
        aNewObject();
        oneToEightFacts();
        asAtFirst();
        whatStaysBehindFacts();
        aFactSoOrNot();
        tempers();
        widths();
        sixtySigns();
        signsOfAnEvening();
        signsOfAFact();
        signsOfAPattern();
        aStarOnlyBehindALetter();
        moreMustCome();
        theFirstSignThatCanNotStand();
        faultsThatFactsChange();
        wiping();
        the512thCall();
        check.end();
    }

    private static void is(String call, long got, long due) {
        check.is(call, got, due);
    }

    /** "Four FACTS that are not so, no ROWS." and what is "at first". */
    private static void aNewObject() {
        check.part("a new object");
        RavelKnit x = new RavelKnit();
        asNew(x, 4);
        is("told(0)", x.told(0), 0);
        is("fault(0)", x.fault(0), NONE);
        is("fault(1)", x.fault(1), NONE);
        is("worlds(0)", x.worlds(0), 16);
        is("made()", x.made(), 0);
        is("restore(0)", x.restore(0), STATE);
        is("restore(1)", x.restore(1), STATE);
        is("fact(3)", x.fact(3, false), 0);
        is("fact(4)", x.fact(4, false), UNKNOWN);
        is("wipe()", x.wipe(), 0);
        is("forget()", x.forget(), 0);
    }

    private static void asNew(RavelKnit x, int facts) {
        is("told(1)", x.told(1), facts);
        is("told(2)", x.told(2), 0);
        is("told(3)", x.told(3), 0);
        is("told(4)", x.told(4), 20);
        is("told(5)", x.told(5), 0);
        for (int guest = 0; guest < 6; guest++) {
            is("told(" + (10 + guest) + ")", x.told(10 + guest), 0);
        }
        is("state(0, 0)", x.state(0, 0), UNKNOWN);
        is("lost(0)", x.lost(0), UNKNOWN);
    }

    /** "n 1 to 8", "FACTS 0 to n less 1 (a on)". */
    private static void oneToEightFacts() {
        check.part("facts, 1 to 8");
        RavelKnit x = new RavelKnit();
        is("facts(0)", x.facts(0), OUTSIDE);
        is("facts(9)", x.facts(9), OUTSIDE);
        is("told(1)", x.told(1), 4);
        int before = 4;
        for (int n = 1; n <= 8; n++) {
            is("facts(" + n + ")", x.facts(n), before);
            before = n;
            is("fact(" + (n - 1) + "), the last", x.fact(n - 1, true), 1 << n - 1);
            is("fact(" + n + "), one too many", x.fact(n, true), UNKNOWN);
            is("fact(-1)", x.fact(-1, true), UNKNOWN);
            is("told(2)", x.told(2), 1 << n - 1);
            Check.pad(x, "A" + (char) ('a' + n - 1) + "+");
            is("fault(0) of the last fact's letter", x.fault(0), NONE);
            Check.pad(x, "A" + (char) ('a' + n) + "+");
            is("fault(0) of the letter behind it", x.fault(0), 1);
            Check.pad(x, "");
            is("worlds(0)", x.worlds(0), 1 << n);
            is("worlds(3)", x.worlds(3), (1 << n) - 1);
        }
    }

    /** "as at first (by as many as there were, too)". */
    private static void asAtFirst() {
        check.part("facts, as at first");
        for (int n : new int[] {1, 5, 6, 7, 8}) {
            RavelKnit x = Scene.RICH.make();
            is("facts(" + n + ")", x.facts(n), 6);
            asNew(x, n);
            x.wipe();
            is("worlds(0), no sights", x.worlds(0), 1 << n);
            is("behind(0)", x.behind(0), 0);
            is("behind(1)", x.behind(1), 20);
            // Temper, width and rows bar nothing that a new object can do.
            Check.knit(x, "Aa+Ba-");
            is("rows that come then", x.told(3), 0);
            Check.knit(x, "Aa+");
            is("its width", x.state(0, 2), 20);
            is("its kind", x.state(0, 1), 0);
        }
        RavelKnit full = Scene.FULL.make();
        is("facts(4)", full.facts(4), 4);
        asNew(full, 4);
        is("a sight is taken again", full.seen(0, 0), 1);
    }

    /** "the PAD, IMAGES stay". */
    private static void whatStaysBehindFacts() {
        check.part("facts, what stays");
        RavelKnit x = Scene.RICH.make();
        x.facts(6);
        is("told(0)", x.told(0), 10);
        is("judge(2), of the same signs", x.judge(2), 3);
        is("restore(1)", x.restore(1), 1);
        is("rows of 1", x.told(3), 6);
        is("sights of 1", x.told(5), 2);
        x.facts(1);
        is("restore(0)", x.restore(0), 1);
        is("rows of 0", x.told(3), 4);
        is("facts of 0", x.told(1), 6);
        RavelKnit full = Scene.FULL.make();
        full.facts(8);
        is("told(0)", full.told(0), 60);
        is("say() on a full pad", full.say('.'), FULL);
    }

    /** "A FACT is so (is true), or not: all that are, as bits." */
    private static void aFactSoOrNot() {
        check.part("a fact");
        RavelKnit x = new RavelKnit();
        x.facts(8);
        int bits = 0;
        for (int fact = 7; fact >= 0; fact--) {
            bits |= 1 << fact;
            is("fact(" + fact + ", true)", x.fact(fact, true), bits);
            is("fact(" + fact + ", true) again", x.fact(fact, true), bits);
        }
        is("told(2), all", x.told(2), 255);
        for (int fact = 0; fact < 8; fact++) {
            bits &= ~(1 << fact);
            is("fact(" + fact + ", false)", x.fact(fact, false), bits);
            is("fact(" + fact + ", false) again", x.fact(fact, false), bits);
        }
        is("told(2), none", x.told(2), 0);
    }

    /** "each of a TEMPER: 0 says what it likes (at first), 1 only what is so, 2 only what is not". */
    private static void tempers() {
        check.part("tempers");
        for (int guest = 0; guest < 6; guest++) {
            RavelKnit x = new RavelKnit();
            String is = GUESTS.charAt(guest) + "a-";
            String isNot = GUESTS.charAt(guest) + "a+";
            for (int v = 0; v <= 2; v++) {
                is("temper(" + guest + ", " + v + ")", x.temper(guest, v), v == 0 ? 0 : v - 1);
                Check.pad(x, is);
                is("judge(1) of what is so, by temper " + v, x.judge(1), v == 2 ? 1 : NONE);
                Check.pad(x, isNot);
                is("judge(1) of what is not, by temper " + v, x.judge(1), v == 1 ? 1 : NONE);
            }
            is("temper(" + guest + ", 3)", x.temper(guest, 3), OUTSIDE);
            is("temper(" + guest + ", -1)", x.temper(guest, -1), OUTSIDE);
            is("it is as it was", x.told(10 + guest), 2);
            for (int other = 0; other < 6; other++) {
                is("temper of " + other, x.told(10 + other), other == guest ? 2 : 0);
            }
        }
        RavelKnit x = new RavelKnit();
        is("temper(-1, 0)", x.temper(-1, 0), UNKNOWN);
        is("temper(6, 0)", x.temper(6, 0), UNKNOWN);
    }

    /** "WIDTH (0 to 40; 20 at first)", a row is "as wide as WIDTH was then". */
    private static void widths() {
        check.part("widths");
        RavelKnit x = new RavelKnit();
        int before = 20;
        for (int v : new int[] {40, 1, 39, 0}) {
            is("width(" + v + ")", x.width(v), before);
            is("width(41)", x.width(41), OUTSIDE);
            is("width(-1)", x.width(-1), OUTSIDE);
            is("told(4)", x.told(4), v);
            before = v;
            Check.pad(x, ".");
            if (v > 0) {
                x.done();
            } else {
                is("done() without width", x.done(), STATE);
            }
        }
        is("rows", x.told(3), 3);
        is("width of row 0", x.state(0, 2), 40);
        is("width of row 1", x.state(1, 2), 1);
        is("width of row 2", x.state(2, 2), 39);
        x = new RavelKnit();
        x.width(40);
        Check.pad(x, "?".repeat(40));
        is("forty times the time", x.behind(1), 0);
        x.say('?');
        is("once more", x.judge(0), 40);
        is("why", x.judge(1), 3);
    }

    /** "a PAD (up to 60 signs, codes 33 to 126)". */
    private static void sixtySigns() {
        check.part("the pad");
        for (int sign = 33; sign <= 126; sign++) {
            is("say(" + sign + ")", new RavelKnit().say(sign), 1);
        }
        for (int sign : new int[] {31, 32, 127, 128, 255, 256 + 'A', 65536 + 'A', -'A'}) {
            is("say(" + sign + ")", new RavelKnit().say(sign), OUTSIDE);
        }
        RavelKnit x = new RavelKnit();
        for (int i = 1; i <= 60; i++) {
            is("sign " + i, x.say('!'), i);
        }
        is("sign 61", x.say('!'), FULL);
        is("sign 61, that can not stand", x.say('x'), FULL);
        is("fault(0) behind what is refused", x.fault(0), NONE);
        is("told(0)", x.told(0), 60);
        is("done()", x.done(), 60);
        is("a sign then", x.say('x'), 1);
    }

    /** Each sign at each place of an evening: where it can not stand, the fault is there. */
    private static void signsOfAnEvening() {
        check.part("signs of an evening");
        String[] ahead = {"", "A", "Aa", "Aa+", ".", "?", "!", "Fd-!B", ".Cc"};
        String whole = GUESTS + ".?!";
        String[] fitting = {whole, "abcd", "+-", whole, whole, whole, whole, "abcd", "+-"};
        for (int i = 0; i < ahead.length; i++) {
            for (int sign = 33; sign <= 126; sign++) {
                RavelKnit x = Check.say(new RavelKnit(), ahead[i] + (char) sign);
                int signs = ahead[i].length() + 1;
                boolean isWhole = ".?!".indexOf(sign) >= 0 || fitting[i].equals("+-");
                int due = fitting[i].indexOf(sign) < 0 ? signs - 1 : isWhole ? NONE : signs;
                is("fault(0) of " + ahead[i] + (char) sign, x.fault(0), due);
            }
        }
    }

    /** "a FACT's letter that there is not, too". */
    private static void signsOfAFact() {
        check.part("letters of facts");
        for (int n = 1; n <= 8; n++) {
            for (char letter = 'a'; letter <= 'z'; letter++) {
                RavelKnit x = new RavelKnit();
                x.facts(n);
                Check.say(x, "Aa-F" + letter + "-");
                is("fault(0) of " + letter + " with " + n + " facts", x.fault(0), letter - 'a' < n ? NONE : 4);
            }
        }
    }

    /** Each sign at each place of a pattern. */
    private static void signsOfAPattern() {
        check.part("signs of a pattern");
        String[] ahead = {"", "A", "F", "A*", "m", "mA", "AA*m"};
        String[] fitting = {GUESTS + "m", GUESTS + "m*", GUESTS + "m*", GUESTS + "m", GUESTS + "m", GUESTS + "m*", GUESTS + "m"};
        for (int i = 0; i < ahead.length; i++) {
            for (int sign = 33; sign <= 126; sign++) {
                RavelKnit x = Check.say(new RavelKnit(), ahead[i] + (char) sign);
                int due = fitting[i].indexOf(sign) < 0 ? ahead[i].length() : NONE;
                is("fault(1) of " + ahead[i] + (char) sign, x.fault(1), due);
            }
        }
    }

    /** "a * but behind a letter": of a guest. */
    private static void aStarOnlyBehindALetter() {
        check.part("stars");
        for (char guest : GUESTS.toCharArray()) {
            is("fault(1) of " + guest + "*", Check.say(new RavelKnit(), guest + "*").fault(1), NONE);
            is("fault(1) of " + guest + "**", Check.say(new RavelKnit(), guest + "**").fault(1), 2);
        }
        is("fault(1) of *", Check.say(new RavelKnit(), "*").fault(1), 0);
        is("fault(1) of *A", Check.say(new RavelKnit(), "*A").fault(1), 0);
        is("fault(1) of m*", Check.say(new RavelKnit(), "m*").fault(1), 1);
        is("fault(1) of Am*", Check.say(new RavelKnit(), "Am*").fault(1), 2);
        is("fault(1) of 30 cables", Check.say(new RavelKnit(), "A*".repeat(30)).fault(1), NONE);
    }

    /** "or the number of signs, if more must come". */
    private static void moreMustCome() {
        check.part("more must come");
        is("of none", new RavelKnit().fault(0), NONE);
        is("of a guest", Check.say(new RavelKnit(), "F").fault(0), 1);
        is("of a guest and a fact", Check.say(new RavelKnit(), "Fd").fault(0), 2);
        is("of all three", Check.say(new RavelKnit(), "Fd-").fault(0), NONE);
        is("behind others", Check.say(new RavelKnit(), ".?!Aa+B").fault(0), 7);
        is("at the pad's end, two signs", Check.say(new RavelKnit(), "!".repeat(59) + "A").fault(0), 60);
        is("at the pad's end, one sign", Check.say(new RavelKnit(), "!".repeat(58) + "Aa").fault(0), 60);
        is("a full pad", Check.say(new RavelKnit(), "!".repeat(57) + "Aa+").fault(0), NONE);
        is("a full pad of guests", Check.say(new RavelKnit(), "Aa+".repeat(20)).fault(0), NONE);
        is("a pattern is never short", Check.say(new RavelKnit(), "A".repeat(60)).fault(1), NONE);
    }

    /** "the place (from 0 on) of the first sign that can not stand there". */
    private static void theFirstSignThatCanNotStand() {
        check.part("the first that can not stand");
        RavelKnit x = Check.say(new RavelKnit(), "x.x");
        is("fault(0)", x.fault(0), 0);
        is("fault(1)", x.fault(1), 0);
        x = Check.say(new RavelKnit(), "AxAAb");
        is("fault(0)", x.fault(0), 1);
        is("fault(1)", x.fault(1), 1);
        x = Check.say(new RavelKnit(), "!".repeat(59) + "x");
        is("fault(0) at the last place", x.fault(0), 59);
        x = Check.say(new RavelKnit(), "m".repeat(59) + "x");
        is("fault(1) at the last place", x.fault(1), 59);
        x = Check.say(new RavelKnit(), "Ae");
        is("it comes ahead of what is short", x.fault(0), 1);
    }

    private static void faultsThatFactsChange() {
        check.part("faults by other facts");
        RavelKnit x = new RavelKnit();
        Check.say(x, "Ah-");
        is("of four", x.fault(0), 1);
        x.image(0);
        x.facts(8);
        is("of eight", x.fault(0), NONE);
        x.facts(7);
        is("of seven", x.fault(0), 1);
        x.facts(8);
        x.restore(0);
        is("of four again", x.fault(0), 1);
    }

    private static void wiping() {
        check.part("wipe");
        RavelKnit x = new RavelKnit();
        is("wipe() of none", x.wipe(), 0);
        x.say('x');
        is("wipe() of one", x.wipe(), 1);
        is("fault(0) then", x.fault(0), NONE);
        Check.say(x, "x".repeat(60));
        is("wipe() of sixty", x.wipe(), 60);
        is("wipe() of none", x.wipe(), 0);
        is("a sign then", x.say('A'), 1);
        is("fault(0) of it alone", x.fault(0), 1);
    }

    /** "An object is used for at most 512 calls": the last of them is answered as the first. */
    private static void the512thCall() {
        check.part("512 calls");
        RavelKnit x = new RavelKnit();
        int calls = 0;
        for (int i = 0; i < 85; i++) {
            Check.say(x, ".Aa+");
            is("done()", x.done(), 2);
            is("facts(4)", x.facts(4), 4);
            calls += 6;
        }
        is("calls", calls, 510);
        is("call 511", x.say('.'), 1);
        is("call 512", x.done(), 1);
    }
}
