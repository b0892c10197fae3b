/** Each promise of the document: ordinary inputs, the edges it names, and wrong inputs. */
public final class PromiseTests {
    private static final int UNKNOWN = -1, OUTSIDE = -2, STATE = -3, FULL = -4, NO = -5, NONE = -6;
    private static final long GONE = -1000000000000000000L;
    private static final int LEAST = Integer.MIN_VALUE, MOST = Integer.MAX_VALUE;
    private static final Check check = new Check("promises");

    public static void main(String[] args) {
        facts();
        evenings();
        patternsAndWorlds();
        chances();
        check.end();
    }

    private static void facts() {
        promise1();
        promise2();
        promise3();
        promise4();
        promise5();
        promise6();
        promise7();
        promise8();
    }

    private static void evenings() {
        promise9();
        promise9reasons();
        promise10();
        promise11();
        promise12();
        promise13();
        promise14();
        refusalsOfEvenings();
    }

    private static void patternsAndWorlds() {
        promise15();
        promise15pauses();
        promise15tempers();
        promise16();
        promise17();
        promise18();
        promise19();
        promise20();
        promise21();
    }

    private static void chances() {
        promise22();
        promise23();
        promise24();
        promise25();
        promise26();
        promise27();
        promise28();
        promise29();
        promise30();
    }

    private static void is(String call, long got, long due) {
        check.is(call, got, due);
    }

    /** The answer must be due and the object as it was. */
    private static void refused(String call, RavelKnit x, long got, long due, String before) {
        is(call, got, due);
        check.holds(call + " changes nothing", Check.seen(x).equals(before));
    }

    private static RavelKnit full() {
        return Check.knitted(".".repeat(30));
    }

    private static void promise1() {
        check.part("promise 1");
        RavelKnit x = new RavelKnit();
        is("signs", x.told(0), 0);
        is("facts", x.told(1), 4);
        is("those that are so", x.told(2), 0);
        is("rows", x.told(3), 0);
        is("width", x.told(4), 20);
        is("sights", x.told(5), 0);
        for (int guest = 0; guest < 6; guest++) {
            is("temper " + guest, x.told(10 + guest), 0);
        }
        is("restore(0)", x.restore(0), STATE);
        is("restore(1)", x.restore(1), STATE);
        is("UNKNOWN", RavelKnit.UNKNOWN, UNKNOWN);
        is("OUTSIDE", RavelKnit.OUTSIDE, OUTSIDE);
        is("STATE", RavelKnit.STATE, STATE);
        is("FULL", RavelKnit.FULL, FULL);
        is("NO", RavelKnit.NO, NO);
        is("NONE", RavelKnit.NONE, NONE);
        is("GONE", RavelKnit.GONE, GONE);
    }

    private static void promise2() {
        check.part("promise 2");
        RavelKnit x = new RavelKnit();
        is("facts(1)", x.facts(1), 4);
        is("facts(8)", x.facts(8), 1);
        is("facts(8)", x.facts(8), 8);
        x.fact(7, true);
        Check.knit(x, "Aa+.Bb+");
        x.temper(0, 1);
        x.temper(5, 2);
        x.width(7);
        x.seen(1, 1);
        x.image(1);
        Check.say(x, "Ca");
        String before = Check.seen(x);
        for (int n : new int[] {0, 9, -1, LEAST, MOST}) {
            refused("facts(" + n + ")", x, x.facts(n), OUTSIDE, before);
        }
        is("facts(8), as many as there were", x.facts(8), 8);
        is("so", x.told(2), 0);
        is("temper of A", x.told(10), 0);
        is("temper of F", x.told(15), 0);
        is("rows", x.told(3), 0);
        is("width", x.told(4), 20);
        is("sights", x.told(5), 0);
        is("the pad stays", x.told(0), 2);
        is("the image stays", x.restore(1), 1);
        is("rows of the image", x.told(3), 3);
        is("sights of the image", x.told(5), 1);
    }

    private static void promise3() {
        check.part("promise 3");
        RavelKnit x = new RavelKnit();
        is("fact(0, true)", x.fact(0, true), 1);
        is("fact(3, true)", x.fact(3, true), 9);
        is("fact(3, true) again", x.fact(3, true), 9);
        is("fact(0, false)", x.fact(0, false), 8);
        is("fact(1, false)", x.fact(1, false), 8);
        String before = Check.seen(x);
        for (int fact : new int[] {4, -1, 32, LEAST, MOST}) {
            refused("fact(" + fact + ")", x, x.fact(fact, true), UNKNOWN, before);
        }
        x.facts(8);
        is("fact(7, true)", x.fact(7, true), 128);
        is("fact(8, true)", x.fact(8, true), UNKNOWN);
        x.facts(1);
        is("fact(0, true) of one", x.fact(0, true), 1);
        is("fact(1, true) of one", x.fact(1, true), UNKNOWN);
    }

    private static void promise4() {
        check.part("promise 4");
        RavelKnit x = new RavelKnit();
        is("temper(0, 2)", x.temper(0, 2), 0);
        is("temper(0, 1)", x.temper(0, 1), 2);
        is("temper(5, 1)", x.temper(5, 1), 0);
        is("temper(0, 0)", x.temper(0, 0), 1);
        is("told(10)", x.told(10), 0);
        is("told(15)", x.told(15), 1);
        String before = Check.seen(x);
        for (int guest : new int[] {6, -1, LEAST, MOST}) {
            refused("temper(" + guest + ", 1)", x, x.temper(guest, 1), UNKNOWN, before);
            refused("temper(" + guest + ", 3)", x, x.temper(guest, 3), UNKNOWN, before);
        }
        for (int v : new int[] {3, -1, LEAST, MOST}) {
            refused("temper(5, " + v + ")", x, x.temper(5, v), OUTSIDE, before);
        }
    }

    private static void promise5() {
        check.part("promise 5");
        RavelKnit x = Check.knitted("Aa+");
        is("width(0)", x.width(0), 20);
        is("width(40)", x.width(40), 0);
        String before = Check.seen(x);
        for (int v : new int[] {41, -1, LEAST, MOST}) {
            refused("width(" + v + ")", x, x.width(v), OUTSIDE, before);
        }
        is("a row stays as wide as it was", x.state(0, 2), 20);
        Check.knit(x, "Aa+");
        is("the next is as wide as the width is now", x.state(1, 2), 40);
    }

    private static void promise6() {
        check.part("promise 6");
        RavelKnit x = new RavelKnit();
        is("say(33)", x.say(33), 1);
        is("say(126)", x.say(126), 2);
        for (int sign : new int[] {32, 127, 0, -1, LEAST, MOST}) {
            is("say(" + sign + ")", x.say(sign), OUTSIDE);
        }
        is("signs", x.told(0), 2);
        for (int i = 3; i <= 60; i++) {
            is("sign " + i, x.say('.'), i);
        }
        is("sign 61", x.say('.'), FULL);
        is("OUTSIDE ahead of FULL", x.say(32), OUTSIDE);
        is("signs", x.told(0), 60);
    }

    private static void promise7() {
        check.part("promise 7");
        RavelKnit x = new RavelKnit();
        is("wipe() of none", x.wipe(), 0);
        Check.say(x, "Aa+");
        is("wipe()", x.wipe(), 3);
        is("wipe() again", x.wipe(), 0);
        is("signs", x.told(0), 0);
        for (int i = 0; i < 60; i++) {
            x.say('.');
        }
        is("wipe() of a full pad", x.wipe(), 60);
        is("say() then", x.say('.'), 1);
    }

    private static void fault(RavelKnit x, String text, int evening, int pattern) {
        Check.pad(x, text);
        is("fault(0) of " + text, x.fault(0), evening);
        is("fault(1) of " + text, x.fault(1), pattern);
    }

    private static void promise8() {
        check.part("promise 8");
        RavelKnit x = new RavelKnit();
        fault(x, "", NONE, NONE);
        fault(x, "A", 1, NONE);
        fault(x, "Aa", 2, 1);
        fault(x, "Aa+", NONE, 1);
        fault(x, "Fd-.?!Aa-", NONE, 1);
        fault(x, "Ae+", 1, 1);
        fault(x, "Aa*", 2, 1);
        fault(x, "AA+", 1, 2);
        fault(x, "A.", 1, 1);
        fault(x, "Aa.", 2, 1);
        fault(x, ".Aa", 3, 0);
        fault(x, "G", 0, 0);
        fault(x, "@", 0, 0);
        fault(x, "a", 0, 0);
        fault(x, "+", 0, 0);
        fault(x, "!!x", 2, 0);
        fault(x, "*", 0, 0);
        fault(x, "AF*m", 1, NONE);
        fault(x, "A**", 1, 2);
        fault(x, "m*", 0, 1);
        fault(x, "mmA*A*M", 0, 6);
        x.facts(1);
        fault(x, "Aa+Ab+", 4, 1);
        x.facts(8);
        fault(x, "Ah+Ai+", 4, 1);
        Check.pad(x, "Ah+");
        is("fault(0) of eight", x.fault(0), NONE);
        x.facts(7);
        is("fault(0) of seven", x.fault(0), 1);
        for (int how : new int[] {2, -1, LEAST, MOST}) {
            is("fault(" + how + ")", x.fault(how), OUTSIDE);
        }
    }

    private static void judged(RavelKnit x, String evening, int remark, int why) {
        Check.pad(x, evening);
        is("judge(0) of " + evening, x.judge(0), remark);
        is("judge(1) of " + evening, x.judge(1), why);
    }

    private static void moved(RavelKnit x, String evening, int came, int went) {
        Check.pad(x, evening);
        is("judge(2) of " + evening, x.judge(2), came);
        is("judge(3) of " + evening, x.judge(3), went);
    }

    private static void promise9() {
        check.part("promise 9");
        RavelKnit x = new RavelKnit();
        x.fact(0, true);
        judged(x, "", NONE, NONE);
        moved(x, "", 0, 0);
        judged(x, "Aa+Aa-.?!", NONE, NONE);
        moved(x, "Aa+", 0, 0);
        moved(x, "Aa-", 1, 0);
        moved(x, "Ab+", 1, 0);
        moved(x, "Aa-Ab-", 1, 1);
        moved(x, ".", 1, 0);
        moved(x, "?", 0, 0);
        moved(x, "!", 0, 0);
        moved(x, "Aa-Aa-Ba-Ba-!", 4, 2);
        moved(x, "..Ba-..!", 5, 2);
        moved(x, "Aa-Aa-Aa-!!Ba-", 4, 3);
        x.temper(1, 1);
        judged(x, "Aa-Ba-", 1, 1);
        is("judge(2)", x.judge(2), STATE);
        is("judge(3)", x.judge(3), STATE);
        for (int what : new int[] {4, -1, LEAST, MOST}) {
            is("judge(" + what + ")", x.judge(what), OUTSIDE);
        }
        is("nothing is done", x.told(3), 0);
    }

    private static void promise9reasons() {
        check.part("promise 9, why");
        RavelKnit x = new RavelKnit();
        x.temper(0, 1);
        x.temper(1, 2);
        judged(x, "Aa-Aa+", 1, 1);
        judged(x, "Ba+Ba-", 1, 1);
        judged(x, "Ba+Ba+Ba-Aa+", 2, 1);
        x = full();
        judged(x, ".", 0, 2);
        judged(x, "Aa+", 0, 2);
        judged(x, "Aa-.", NONE, NONE);
        judged(x, "Aa-..", 2, 2);
        judged(x, "?!", NONE, NONE);
        x.width(0);
        judged(x, ".", 0, 2);
        judged(x, "?", 0, 3);
        judged(x, "Aa-!", NONE, NONE);
        judged(x, "Aa-.", 1, 3);
        judged(x, "Aa-Aa+", 1, 3);
        x.temper(0, 1);
        judged(x, "Aa+", 0, 1);
        judged(x, "Aa-Aa+", 1, 1);
        x = new RavelKnit();
        x.width(1);
        judged(x, "?", NONE, NONE);
        judged(x, "??", 1, 3);
        judged(x, ".?!Aa-.", 4, 3);
    }

    private static void promise10() {
        check.part("promise 10");
        RavelKnit x = Check.knitted("Aa+Ba+Ca+");
        Check.pad(x, "");
        is("behind(0) of none", x.behind(0), 3);
        is("behind(1) of none", x.behind(1), 20);
        is("behind(2) of none", x.behind(2), 3);
        is("behind(3) of none", x.behind(3), 3);
        Check.pad(x, "Aa-Aa-?.?Ba+Da+Aa-");
        is("behind(0)", x.behind(0), 3);
        is("behind(1)", x.behind(1), 18);
        is("behind(2)", x.behind(2), 1);
        is("behind(3)", x.behind(3), 4);
        Check.pad(x, "Aa-Aa-.");
        is("now is the highest", x.behind(3), 3);
        is("two are lost", x.behind(2), 1);
        Check.pad(x, "Aa-.");
        is("the first remark is the lowest", x.behind(2), 2);
        Check.pad(x, ".Aa-Aa-");
        is("the last remark is the lowest", x.behind(2), 2);
        is("the first remark is the highest", x.behind(3), 4);
        Check.pad(x, "Aa-..");
        is("the last remark is the highest", x.behind(3), 4);
        Check.pad(x, "...");
        is("all are kept", x.behind(2), 3);
        is("rows of both", x.behind(0), 6);
        is("nothing is done", x.told(3), 3);
        for (int what : new int[] {4, -1, LEAST, MOST}) {
            is("behind(" + what + ")", x.behind(what), OUTSIDE);
        }
        x = new RavelKnit();
        Check.pad(x, "!.".repeat(30));
        is("the 60th remark is the highest", x.behind(3), 1);
        is("60 remarks", x.done(), 60);
    }

    private static void rows(RavelKnit x, String evening, String due) {
        Check.pad(x, evening);
        StringBuilder got = new StringBuilder();
        for (int row = 0; row < x.behind(0); row++) {
            got.append("ABCDEFm".charAt(x.row(row, 0))).append(" *m".charAt(x.row(row, 1))).append(x.row(row, 2)).append(' ');
        }
        check.holds("rows behind " + evening + " are " + got, got.toString().equals(due));
    }

    private static void promise11() {
        check.part("promise 11");
        RavelKnit x = Check.knitted("Aa+");
        rows(x, "", "A 20 ");
        rows(x, "Aa+", "A 20 A 20 ");
        rows(x, "Aa+Ab+Ac+", "A 20 A 20 A*20 A*20 ");
        rows(x, "Aa+?Aa+", "A 20 A 20 A 19 ");
        rows(x, "Aa+Ba+Ba-Aa+", "A 20 A 20 A 20 ");
        rows(x, "Aa+.!Aa+", "A 20 A 20 A 20 ");
        rows(x, "Fa+Fa+.Fa+", "A 20 F 20 F*20 mm20 F 20 ");
        rows(x, "Aa+Ba+Aa+Ba+Ba+", "A 20 A 20 B 20 A 20 B 20 B*20 ");
        rows(x, "Aa+Aa-Aa+", "A 20 A 20 ");
        rows(x, "??.??Ca+", "A 20 mm18 C 16 ");
        rows(x, "Aa+!Aa+", "A 20 ");
        Check.pad(x, "Ba+");
        is("row(2, 0)", x.row(2, 0), UNKNOWN);
        is("row(-1, 0)", x.row(-1, 0), UNKNOWN);
        is("row(MOST, 2)", x.row(MOST, 2), UNKNOWN);
        is("row(LEAST, 2)", x.row(LEAST, 2), UNKNOWN);
        is("row(1, 0)", x.row(1, 0), 1);
        for (int what : new int[] {3, -1, LEAST, MOST}) {
            is("row(0, " + what + ")", x.row(0, what), OUTSIDE);
            is("OUTSIDE ahead of UNKNOWN", x.row(9, what), OUTSIDE);
        }
        is("nothing is done", x.told(3), 1);
    }

    private static void promise12() {
        check.part("promise 12");
        RavelKnit x = Check.knitted("Aa+Aa+Ba+.");
        Check.pad(x, "?Aa-.!Ba-!Aa-");
        is("lost(3)", x.lost(3), 1);
        is("lost(2)", x.lost(2), 4);
        is("lost(1)", x.lost(1), 5);
        is("lost(0)", x.lost(0), 5);
        Check.pad(x, "..Aa+!!Aa-Ca+");
        is("lost(3) behind others", x.lost(3), 4);
        is("lost(2) behind others", x.lost(2), 5);
        is("lost(1) stays", x.lost(1), NONE);
        is("lost(0) stays", x.lost(0), NONE);
        Check.pad(x, "Aa-Aa-");
        is("lost(3) by the first", x.lost(3), 0);
        is("lost(2) by the last", x.lost(2), 1);
        for (int row : new int[] {4, -1, LEAST, MOST}) {
            is("lost(" + row + ")", x.lost(row), UNKNOWN);
        }
        is("nothing is done", x.told(3), 4);
    }

    private static void promise13() {
        check.part("promise 13");
        RavelKnit x = new RavelKnit();
        is("done() of none", x.done(), 0);
        Check.say(x, "Aa+?Ba+Ba+.");
        is("done()", x.done(), 5);
        is("rows", x.told(3), 4);
        is("width", x.told(4), 19);
        is("the pad is empty", x.told(0), 0);
        Check.knit(x, "Aa-");
        is("rows", x.told(3), 3);
        Check.knit(x, "Ba+");
        is("no remark is ahead in a new evening", x.state(3, 1), 0);
        Check.knit(x, "!");
        is("all of one colour", x.told(3), 1);
        is("facts stay", x.told(1), 4);
        x.width(0);
        Check.pad(x, "!.");
        String before = Check.seen(x);
        refused("done() of what can not be", x, x.done(), STATE, before);
        Check.pad(x, "!A");
        before = Check.seen(x);
        refused("done() of a fault", x, x.done(), NO, before);
    }

    private static void promise14() {
        check.part("promise 14");
        RavelKnit x = Check.knitted("Fa+Fa+?.");
        is("state(0, 0)", x.state(0, 0), 5);
        is("state(0, 1)", x.state(0, 1), 0);
        is("state(0, 2)", x.state(0, 2), 20);
        is("state(1, 0)", x.state(1, 0), 5);
        is("state(1, 1)", x.state(1, 1), 1);
        is("state(2, 0)", x.state(2, 0), 6);
        is("state(2, 1)", x.state(2, 1), 2);
        is("state(2, 2)", x.state(2, 2), 19);
        Check.say(x, "!A");
        is("the pad does not matter", x.state(2, 0), 6);
        for (int row : new int[] {3, -1, LEAST, MOST}) {
            is("state(" + row + ", 0)", x.state(row, 0), UNKNOWN);
            is("UNKNOWN ahead of OUTSIDE", x.state(row, 3), UNKNOWN);
        }
        for (int what : new int[] {3, -1, LEAST, MOST}) {
            is("state(0, " + what + ")", x.state(0, what), OUTSIDE);
        }
    }

    private static RavelKnit evening(String text) {
        RavelKnit x = Check.knitted("Aa+");
        x.temper(0, 1);
        return Check.pad(x, text);
    }

    private static void refusedEvening(String text, int due, String call, java.util.function.ToIntFunction<RavelKnit> made) {
        RavelKnit x = evening(text);
        String before = Check.seen(x);
        refused(call + " of " + text, x, made.applyAsInt(x), due, before);
    }

    private static void refusalsOfEvenings() {
        check.part("promises 9 to 13, refusals");
        refusalsOf("Aa+A", NO);
        refusalsOf(".Aa+", STATE);
        for (int what = 0; what < 2; what++) {
            int k = what;
            refusedEvening("Aa+A", NO, "judge(" + k + ")", x -> x.judge(k));
            refusedEvening(".Aa+", 1, "judge(" + k + ")", x -> x.judge(k));
        }
    }

    private static void refusalsOf(String text, int refusal) {
        for (int what = 0; what < 4; what++) {
            int k = what;
            refusedEvening(text, refusal, "behind(" + k + ")", x -> x.behind(k));
        }
        refusedEvening(text, refusal, "judge(2)", x -> x.judge(2));
        refusedEvening(text, refusal, "judge(3)", x -> x.judge(3));
        refusedEvening(text, OUTSIDE, "judge(4)", x -> x.judge(4));
        refusedEvening(text, OUTSIDE, "behind(4)", x -> x.behind(4));
        refusedEvening(text, refusal, "row(0, 0)", x -> x.row(0, 0));
        refusedEvening(text, refusal, "row(9, 0), ahead of UNKNOWN,", x -> x.row(9, 0));
        refusedEvening(text, OUTSIDE, "row(0, 3)", x -> x.row(0, 3));
        refusedEvening(text, OUTSIDE, "row(9, 3)", x -> x.row(9, 3));
        refusedEvening(text, refusal, "lost(0)", x -> x.lost(0));
        refusedEvening(text, UNKNOWN, "lost(1)", x -> x.lost(1));
        refusedEvening(text, refusal, "done()", x -> x.done());
    }

    private static void made(RavelKnit x, String pattern, int remarks, int bars) {
        Check.pad(x, pattern);
        is("made() of " + pattern, x.made(), remarks);
        is("bars() of " + pattern, x.bars(), bars);
    }

    private static void promise15() {
        check.part("promise 15");
        RavelKnit x = new RavelKnit();
        made(x, "", 0, NONE);
        made(x, "A", 1, NONE);
        made(x, "m", 1, NONE);
        made(x, "mm", 2, NONE);
        made(x, "AA*A*", 3, NONE);
        made(x, "AA", 3, NONE);
        made(x, "AA*AB", 5, NONE);
        made(x, "AB*", NONE, 1);
        made(x, "mA*", NONE, 1);
        x = Check.knitted("Aa+Aa+Ba+..");
        made(x, "AA*Bmm", 0, NONE);
        made(x, "AA*Bm", 1, NONE);
        made(x, "AA*B", 1, NONE);
        made(x, "AA*", 2, NONE);
        made(x, "", 3, NONE);
        made(x, "A", 3, NONE);
        made(x, "AA*BmmB", 1, NONE);
        made(x, "AA*BmB", 2, NONE);
        made(x, "AA*BB", 2, NONE);
        made(x, "AA*BB*", 4, NONE);
        made(x, "B", 4, NONE);
        x = Check.knitted("Aa+?Aa+?Aa+?Aa+");
        made(x, "A", 2, NONE);
        made(x, "AA", 2, NONE);
        made(x, "AAA", 1, NONE);
        made(x, "AAAA*", 4, NONE);
        Check.knit(x, "Aa+");
        made(x, "A", 2, NONE);
        made(x, "ABC", 4, NONE);
        made(x, "AAAA", 1, NONE);
        Check.pad(x, "Aa");
        is("made() of a fault", x.made(), NO);
        Check.pad(x, "m".repeat(31));
        String before = Check.seen(x);
        refused("made() of 31 rows", x, x.made(), FULL, before);
        x.say('*');
        is("NO ahead of FULL", x.made(), NO);
        Check.pad(x, "A" + "A*".repeat(29));
        is("made() of 30 rows, of 59 signs", x.made(), 1 + 30);
    }

    private static void promise15pauses() {
        check.part("promise 15, pauses and width");
        String thirty = "A".repeat(30);
        RavelKnit x = new RavelKnit();
        Check.pad(x, thirty);
        is("19 pauses by time, 10 by moss", x.made(), 30 + 19 + 20);
        x.width(40);
        is("all pauses by time", x.made(), 30 + 29);
        x.width(30);
        is("the last stitch is not spent", x.made(), 30 + 29);
        x.width(29);
        is("one pause by moss", x.made(), 30 + 28 + 2);
        x.width(1);
        is("all pauses by moss", x.made(), 30 + 58);
        x.width(0);
        is("no row can come", x.made(), NONE);
        is("from the first on", x.bars(), 0);
        Check.pad(x, "");
        is("none need come", x.made(), 0);
        x = Check.knitted("Aa+Ba+");
        x.width(0);
        made(x, "AB", 0, NONE);
        made(x, "A", 1, NONE);
        made(x, "", 2, NONE);
        made(x, "ABA", NONE, 2);
        is("nothing is done", x.told(3), 2);
        is("no time was asked", x.told(4), 0);
    }

    private static void tempers(RavelKnit x, int v) {
        for (int guest = 0; guest < 6; guest++) {
            x.temper(guest, v);
        }
    }

    private static void promise15tempers() {
        check.part("promise 15, tempers");
        RavelKnit x = Check.knitted("Aa+?Aa+?Aa+Ba+");
        tempers(x, 2);
        made(x, "AAAB", 0, NONE);
        made(x, "AAA", 1, NONE);
        // Only children take rows here: two of one colour are not to be had of three.
        made(x, "AA", 2 + 3, NONE);
        made(x, "B", 3, NONE);
        x.width(2);
        made(x, "A", 3, NONE);
        made(x, "AA", 5, NONE);
        x.temper(5, 1);
        made(x, "AA", 2, NONE);
        x.temper(0, 1);
        made(x, "AAB", 3, NONE);
        made(x, "AABA", NONE, 3);
        made(x, "BA", NONE, 1);
        made(x, "BF", NONE, 1);
        made(x, "Bm", 4, NONE);
        tempers(x, 1);
        made(x, "AAABm", 1, NONE);
        made(x, "AAABB", NONE, 4);
        made(x, "AAABmm", 2, NONE);
    }

    private static void promise16() {
        check.part("promise 16");
        RavelKnit x = new RavelKnit();
        made(x, "A*", NONE, 0);
        made(x, "AmBA*m", NONE, 3);
        x.temper(1, 1);
        made(x, "AmBA*m", NONE, 2);
        Check.pad(x, "A+");
        String before = Check.seen(x);
        refused("bars() of a fault", x, x.bars(), NO, before);
        Check.pad(x, "A*" + "m".repeat(30));
        before = Check.seen(x);
        refused("bars() of 31 rows", x, x.bars(), FULL, before);
        x.say('*');
        is("NO ahead of FULL", x.bars(), NO);
        x = Check.knitted("Aa+?Aa+");
        tempers(x, 2);
        x.width(0);
        made(x, "AA", 0, 0);
    }

    private static void promise17() {
        check.part("promise 17");
        RavelKnit x = new RavelKnit();
        is("seen(0, 0)", x.seen(0, 0), 1);
        is("seen(60, 30)", x.seen(60, 30), 2);
        String before = Check.seen(x);
        for (int v : new int[] {-1, LEAST, MOST}) {
            refused("seen(" + v + ", 0)", x, x.seen(v, 0), OUTSIDE, before);
            refused("seen(0, " + v + ")", x, x.seen(0, v), OUTSIDE, before);
        }
        refused("seen(61, 0)", x, x.seen(61, 0), OUTSIDE, before);
        refused("seen(0, 31)", x, x.seen(0, 31), OUTSIDE, before);
        for (int i = 3; i <= 8; i++) {
            is("sight " + i, x.seen(0, 0), i);
        }
        before = Check.seen(x);
        refused("sight 9", x, x.seen(0, 0), FULL, before);
        refused("OUTSIDE ahead of FULL", x, x.seen(0, 31), OUTSIDE, before);
        is("told(5)", x.told(5), 8);
    }

    private static void promise18() {
        check.part("promise 18");
        RavelKnit x = new RavelKnit();
        is("forget() of none", x.forget(), 0);
        x.seen(0, 1);
        x.seen(0, 1);
        is("no world", x.worlds(0), 0);
        is("forget()", x.forget(), 2);
        is("forget() again", x.forget(), 0);
        is("all worlds again", x.worlds(0), 16);
        is("told(5)", x.told(5), 0);
    }

    private static void worlds(RavelKnit x, int many, int least, int inAll, int inSome) {
        is("worlds(0)", x.worlds(0), many);
        is("worlds(1)", x.worlds(1), least);
        is("worlds(2)", x.worlds(2), inAll);
        is("worlds(3)", x.worlds(3), inSome);
    }

    private static void promise19() {
        check.part("promise 19");
        RavelKnit x = new RavelKnit();
        worlds(x, 16, 0, 0, 15);
        x.fact(0, true);
        worlds(x, 16, 0, 0, 15);
        x.facts(8);
        worlds(x, 256, 0, 0, 255);
        x.facts(3);
        Check.say(x, "Aa+Bb+Cc-");
        worlds(x, 8, 0, 0, 7);
        x.temper(0, 1);
        worlds(x, 4, 1, 1, 7);
        x.temper(1, 2);
        worlds(x, 2, 1, 1, 5);
        x.seen(3, 2);
        worlds(x, 1, 5, 5, 5);
        x.seen(0, 0);
        worlds(x, 1, 5, 5, 5);
        x.seen(4, 1);
        worlds(x, 0, NONE, 0, 0);
        x.forget();
        x.seen(2, 1);
        worlds(x, 2, 1, 1, 5);
        x.temper(1, 1);
        worlds(x, 0, NONE, 0, 0);
        is("facts are as they were", x.told(2), 0);
        x.wipe();
        Check.say(x, "Aa");
        String before = Check.seen(x);
        for (int what = 0; what < 4; what++) {
            refused("worlds(" + what + ") of a fault", x, x.worlds(what), NO, before);
        }
        for (int what : new int[] {4, -1, LEAST, MOST}) {
            refused("worlds(" + what + "), OUTSIDE ahead of NO", x, x.worlds(what), OUTSIDE, before);
        }
        x = full();
        Check.say(x, "Aa+");
        worlds(x, 8, 1, 1, 15);
        Check.say(x, "?Ab-");
        worlds(x, 8, 1, 1, 15);
        x.width(0);
        worlds(x, 0, NONE, 0, 0);
        Check.pad(x, "Aa+Ab-");
        worlds(x, 4, 1, 1, 13);
        x = Check.knitted("..");
        Check.say(x, "?".repeat(40) + "!".repeat(19) + ".");
        x.width(40);
        worlds(x, 0, NONE, 0, 0);
        is("a stitch is short", x.judge(0), 59);
        x.width(40);
        Check.pad(x, "!".repeat(62));
        is("the pad is full", x.told(0), 60);
        x.seen(60, 0);
        worlds(x, 16, 0, 0, 15);
        x.seen(0, 2);
        worlds(x, 16, 0, 0, 15);
        x.seen(60, 1);
        worlds(x, 0, NONE, 0, 0);
    }

    private static void promise20() {
        check.part("promise 20");
        RavelKnit x = new RavelKnit();
        is("tell(0), the least of all alike", x.tell(0), 0);
        is("tell(1)", x.tell(1), 8);
        x.temper(0, 1);
        Check.say(x, "Aa+Ab-");
        is("tell(0), of what is open", x.tell(0), 2);
        is("tell(1)", x.tell(1), 2);
        Check.say(x, "Ac-Ad+");
        is("tell(0), of one world", x.tell(0), 0);
        is("tell(1)", x.tell(1), 1);
        Check.say(x, "Ac+");
        is("tell(0), of no world", x.tell(0), NONE);
        is("tell(1), of no world", x.tell(1), NONE);
        Check.pad(x, "Aa+");
        is("tell(0), the least that is open", x.tell(0), 1);
        is("tell(1)", x.tell(1), 4);
        Check.pad(x, "Ba+Bb+");
        x.seen(2, 1);
        is("worlds where a is so and b is not", x.worlds(0), 4);
        is("tell(0)", x.tell(0), 2);
        is("tell(1)", x.tell(1), 2);
        x.forget();
        x.seen(2, 0);
        is("worlds where b is so", x.worlds(2), 2);
        x.temper(0, 2);
        Check.say(x, "Aa-");
        x.forget();
        x.seen(3, 0);
        x.seen(1, 0);
        is("no world", x.tell(0), NONE);
        Check.say(x, "A");
        is("tell(0) of a fault", x.tell(0), NO);
        is("tell(1) of a fault", x.tell(1), NO);
        for (int what : new int[] {2, -1, LEAST, MOST}) {
            is("tell(" + what + "), OUTSIDE ahead of NO", x.tell(what), OUTSIDE);
        }
    }

    private static void promise21() {
        check.part("promise 21");
        RavelKnit x = new RavelKnit();
        x.fact(0, true);
        Check.say(x, "Aa+Ba-Ca+Cb+.?!Ab-Bb+");
        is("says(0)", x.says(0), 1);
        is("says(1)", x.says(1), 2);
        is("says(2)", x.says(2), 3);
        is("says(3)", x.says(3), 0);
        is("says(5)", x.says(5), 0);
        x.temper(0, 2);
        x.width(0);
        is("tempers are let be", x.says(0), 1);
        x.fact(0, false);
        is("says(0), of other facts", x.says(0), 3);
        is("says(1), of other facts", x.says(1), 3);
        x.say('A');
        is("says(0) of a fault", x.says(0), NO);
        for (int guest : new int[] {6, -1, LEAST, MOST}) {
            is("says(" + guest + "), UNKNOWN ahead of NO", x.says(guest), UNKNOWN);
        }
        x.wipe();
        is("says(0) of none", x.says(0), 0);
    }

    private static void promise22() {
        check.part("promise 22");
        RavelKnit x = new RavelKnit();
        is("orders(0, 0, 0, 0)", x.orders(0, 0, 0, 0), 1);
        is("orders(0, 0, 30, 30)", x.orders(0, 0, 30, 30), 1);
        is("orders(0, 0, 30, 29)", x.orders(0, 0, 30, 29), 0);
        is("orders(1, 1, 0, 0)", x.orders(1, 1, 0, 0), 1);
        is("orders(1, 1, 0, 1)", x.orders(1, 1, 0, 1), 1);
        is("orders(1, 1, 1, 1)", x.orders(1, 1, 1, 1), 2);
        is("orders(0, 12, 30, 42)", x.orders(0, 12, 30, 42), 1);
        is("orders(12, 12, 12, 12)", x.orders(12, 12, 12, 12), 2704156);
        is("orders(12, 12, 0, 12)", x.orders(12, 12, 0, 12), 1);
        is("orders(12, 0, 30, 18)", x.orders(12, 0, 30, 18), 1);
        is("orders(12, 0, 5, 0)", x.orders(12, 0, 5, 0), 1);
        is("orders(12, 12, 30, 43)", x.orders(12, 12, 30, 43), 0);
        is("orders(12, 12, 30, 50)", x.orders(12, 12, 30, 50), 0);
        for (int v : new int[] {-1, 13, LEAST, MOST}) {
            is("orders(" + v + ", 1, 1, 1)", x.orders(v, 1, 1, 1), GONE + OUTSIDE);
            is("orders(1, " + v + ", 1, 1)", x.orders(1, v, 1, 1), GONE + OUTSIDE);
        }
        for (int v : new int[] {-1, 31, LEAST, MOST}) {
            is("orders(1, 1, " + v + ", 1)", x.orders(1, 1, v, 1), GONE + OUTSIDE);
        }
        for (int v : new int[] {-1, 51, LEAST, MOST}) {
            is("orders(1, 1, 1, " + v + ")", x.orders(1, 1, 1, v), GONE - 2);
        }
    }

    private static void promise23() {
        check.part("promise 23");
        RavelKnit x = new RavelKnit();
        is("left(0, 0, 0, 0)", x.left(0, 0, 0, 0), 0);
        is("left(0, 0, 0, 1)", x.left(0, 0, 0, 1), 0);
        is("left(12, 12, 30, 0)", x.left(12, 12, 30, 0), 30);
        is("left(12, 12, 30, 1)", x.left(12, 12, 30, 1), 30);
        is("left(0, 12, 30, 1)", x.left(0, 12, 30, 1), 42);
        is("left(12, 0, 3, 0)", x.left(12, 0, 3, 0), 0);
        is("left(12, 2, 3, 0)", x.left(12, 2, 3, 0), 0);
        is("left(12, 2, 3, 1)", x.left(12, 2, 3, 1), 2);
        is("left(4, 3, 2, 0)", x.left(4, 3, 2, 0), 1);
        is("left(4, 3, 2, 1)", x.left(4, 3, 2, 1), 3);
        for (int v : new int[] {-1, 13, LEAST, MOST}) {
            is("left(" + v + ", 1, 1, 0)", x.left(v, 1, 1, 0), OUTSIDE);
            is("left(1, " + v + ", 1, 0)", x.left(1, v, 1, 0), OUTSIDE);
        }
        for (int v : new int[] {-1, 31, LEAST, MOST}) {
            is("left(1, 1, " + v + ", 0)", x.left(1, 1, v, 0), OUTSIDE);
        }
        for (int v : new int[] {-1, 2, LEAST, MOST}) {
            is("left(1, 1, 1, " + v + ")", x.left(1, 1, 1, v), OUTSIDE);
        }
    }

    private static void chance(RavelKnit x, int m, int t, int k, long upper, long lower) {
        String of = "chance(" + m + ", " + t + ", " + k + ", ";
        is(of + "0)", x.chance(m, t, k, 0), upper);
        is(of + "1)", x.chance(m, t, k, 1), lower);
    }

    private static void promise24() {
        check.part("promise 24");
        RavelKnit x = new RavelKnit();
        chance(x, 0, 0, 0, 1, 1);
        chance(x, 0, 5, 1, 0, 1);
        chance(x, 0, 5, -1, 0, 1);
        chance(x, 1, 3, 1, 7, 10);
        chance(x, 1, 3, 0, 1, 1);
        chance(x, 1, 3, -1, 7, 10);
        chance(x, 2, 5, -1, 3, 4);
        chance(x, 12, 0, 12, 1, 1);
        chance(x, 12, 0, 13, 0, 1);
        chance(x, 12, 10, 1, 0, 1);
        chance(x, 12, 0, -1, 12, 1);
        chance(x, 12, 9, 12, 1, 1000000000000L);
        Check.knit(x, "..");
        chance(x, 1, 3, 3, 7, 10);
        chance(x, 1, 3, -1, 12, 5);
        chance(x, 2, 10, 1, 0, 1);
        chance(x, 2, 1, 1, 99, 100);
        chance(x, 0, 1, 2, 1, 1);
        chance(x, 12, 4, 50, 0, 1);
        x = full();
        chance(x, 12, 0, 42, 1, 1);
        chance(x, 12, 1, -1, 198, 5);
        x.width(0);
        chance(x, 1, 0, 31, 1, 1);
        for (int v : new int[] {LEAST, MOST, -2, 51}) {
            is("chance(13 and such)", x.chance(Math.max(v, 13), 1, 1, 0), GONE + OUTSIDE);
            is("chance(-1 and such)", x.chance(Math.min(v, -1), 1, 1, 0), GONE + OUTSIDE);
            is("chance(1, 11 and such)", x.chance(1, Math.max(v, 11), 1, 0), GONE + OUTSIDE);
            is("chance(1, -1 and such)", x.chance(1, Math.min(v, -1), 1, 0), GONE + OUTSIDE);
            is("chance(1, 1, " + v + ")", x.chance(1, 1, v, 0), GONE + OUTSIDE);
            is("chance(1, 1, 1, " + v + ")", x.chance(1, 1, 1, v), GONE - 2);
        }
        is("chance(1, 1, 1, 2)", x.chance(1, 1, 1, 2), GONE - 2);
        is("chance(1, 1, 1, -1)", x.chance(1, 1, 1, -1), GONE - 2);
    }

    private static void promise25() {
        check.part("promise 25");
        RavelKnit x = new RavelKnit();
        is("over(0, 0, 0, 1, 1)", x.over(0, 0, 0, 1, 1), 0);
        is("over(0, 0, 40, 1, 1)", x.over(0, 0, 40, 1, 1), 40);
        is("over(0, 0, 41, 1, 1)", x.over(0, 0, 41, 1, 1), NONE);
        is("over(0, 0, 50, 0, 1)", x.over(0, 0, 50, 0, 1), 0);
        is("over(1, 5, 1, 1, 2)", x.over(1, 5, 1, 1, 2), 0);
        is("over(1, 5, 1, 51, 100)", x.over(1, 5, 1, 51, 100), 2);
        is("over(12, 10, 28, 1, 1)", x.over(12, 10, 28, 1, 1), 40);
        is("over(12, 10, 29, 1, 100)", x.over(12, 10, 29, 1, 100), NONE);
        is("over(12, 0, 50, 100, 100)", x.over(12, 0, 50, 100, 100), 38);
        Check.knit(x, "...");
        is("over(0, 0, 43, 1, 1)", x.over(0, 0, 43, 1, 1), 40);
        is("over(1, 9, 3, 10, 100)", x.over(1, 9, 3, 10, 100), 0);
        is("over(1, 9, 3, 11, 100)", x.over(1, 9, 3, 11, 100), 1);
        x.width(0);
        is("nothing bars", x.over(0, 0, 50, 1, 1), NONE);
        is("nothing bars", x.over(0, 0, 40, 1, 1), 37);
        x = full();
        is("over(12, 10, 50, 1, 1)", x.over(12, 10, 50, 1, 1), 32);
        is("over(12, 0, 50, 1, 1)", x.over(12, 0, 50, 1, 1), 8);
        is("over(13, ..)", x.over(13, 1, 1, 1, 1), OUTSIDE);
        is("over(-1, ..)", x.over(-1, 1, 1, 1, 1), OUTSIDE);
        is("over(1, 11, ..)", x.over(1, 11, 1, 1, 1), OUTSIDE);
        is("over(1, -1, ..)", x.over(1, -1, 1, 1, 1), OUTSIDE);
        is("over(1, 1, 51, ..)", x.over(1, 1, 51, 1, 1), OUTSIDE);
        is("over(1, 1, -1, ..)", x.over(1, 1, -1, 1, 1), OUTSIDE);
        is("over(1, 1, 1, 0, 0)", x.over(1, 1, 1, 0, 0), OUTSIDE);
        is("over(1, 1, 1, 1, 101)", x.over(1, 1, 1, 1, 101), OUTSIDE);
        is("over(1, 1, 1, 3, 2)", x.over(1, 1, 1, 3, 2), OUTSIDE);
        is("over(1, 1, 1, -1, 2)", x.over(1, 1, 1, -1, 2), OUTSIDE);
        is("over(MOST ..)", x.over(MOST, MOST, MOST, MOST, MOST), OUTSIDE);
        is("over(LEAST ..)", x.over(LEAST, LEAST, LEAST, LEAST, LEAST), OUTSIDE);
    }

    private static void promise26() {
        check.part("promise 26");
        RavelKnit x = Check.knitted("Aa+");
        is("patterns(0)", x.patterns(0), 1);
        is("patterns(1)", x.patterns(1), 7);
        is("patterns(2)", x.patterns(2), 55);
        is("patterns(8)", x.patterns(8), 13097377);
        x.width(0);
        is("width does not matter", x.patterns(2), 55);
        x.temper(0, 2);
        is("who only lies can lie", x.patterns(2), 55);
        x.temper(0, 1);
        is("patterns(1) by five", x.patterns(1), 6);
        is("patterns(2) by five", x.patterns(2), 41);
        tempers(x, 1);
        is("patterns(0) by nobody", x.patterns(0), 1);
        is("patterns(1) by nobody", x.patterns(1), 1);
        is("patterns(8) by nobody", x.patterns(8), 1);
        for (int k : new int[] {9, -1, LEAST, MOST}) {
            is("patterns(" + k + ")", x.patterns(k), OUTSIDE);
        }
    }

    private static void drawn(RavelKnit x, int seed, int m, int rows, int came, int width) {
        String of = "draws(" + seed + ", " + m + ", ";
        is(of + "0)", x.draws(seed, m, 0), rows);
        is(of + "1)", x.draws(seed, m, 1), came);
        is(of + "2)", x.draws(seed, m, 2), width);
    }

    private static void promise27() {
        check.part("promise 27");
        // From 0: 74 a child, 5624 silence, 28652 F says a is so.
        RavelKnit x = new RavelKnit();
        drawn(x, 0, 1, 0, 0, 20);
        drawn(x, 0, 2, 1, 1, 20);
        drawn(x, 0, 3, 2, 2, 20);
        x.temper(5, 1);
        drawn(x, 0, 3, 1, 1, 20);
        x.fact(0, true);
        drawn(x, 0, 3, 0, 1, 20);
        x.temper(5, 0);
        x.width(0);
        drawn(x, 0, 3, 0, 0, 0);
        x = Check.knitted("..Ba+Ba+");
        drawn(x, 0, 1, 2, 0, 20);
        drawn(x, 0, 3, 4, 2, 20);
        is("nothing is done in fact", x.told(3), 4);
        is("nothing is done in fact", x.told(4), 20);
        x = full();
        drawn(x, 0, 1, 0, 0, 20);
        Check.pad(x, "A");
        is("the pad does not matter", x.draws(0, 2, 0), 1);
        x = new RavelKnit();
        x.fact(0, true);
        x.fact(2, true);
        drawn(x, 5, 40, 1, 14, 15);
        drawn(x, 1, 7, 3, 3, 18);
        drawn(x, 7, 12, 1, 5, 19);
        drawn(x, 100, 25, 10, 17, 19);
        drawn(x, 2026, 60, 20, 35, 12);
        drawn(x, 9999, 99, 4, 40, 7);
        x.facts(3);
        x.fact(0, true);
        x.fact(2, true);
        drawn(x, 100, 25, 4, 12, 19);
        drawn(x, 9999, 99, 3, 45, 7);
        drawn(x, 4711, 33, 4, 18, 18);
        for (int v : new int[] {-1, LEAST, MOST}) {
            is("draws(" + v + ", 1, 0)", x.draws(v, 1, 0), OUTSIDE);
            is("draws(1, " + v + ", 0)", x.draws(1, v, 0), OUTSIDE);
            is("draws(1, 1, " + v + ")", x.draws(1, 1, v), OUTSIDE);
        }
        is("draws(10000, 1, 0)", x.draws(10000, 1, 0), OUTSIDE);
        is("draws(1, 0, 0)", x.draws(1, 0, 0), OUTSIDE);
        is("draws(1, 100, 0)", x.draws(1, 100, 0), OUTSIDE);
        is("draws(1, 1, 3)", x.draws(1, 1, 3), OUTSIDE);
    }

    private static void promise28() {
        check.part("promise 28");
        RavelKnit x = Check.knitted("Aa+Aa+");
        Check.say(x, "Ba");
        is("image(0)", x.image(0), 1);
        Check.pad(x, "!..Ca+");
        x.done();
        is("image(1)", x.image(1), 1);
        is("restore(0)", x.restore(0), 1);
        is("rows of 0", x.told(3), 2);
        is("kind of its top", x.state(1, 1), 1);
        is("the pad is not of it", x.told(0), 0);
        is("restore(1)", x.restore(1), 1);
        is("rows of 1", x.told(3), 3);
        is("colour of its top", x.state(2, 0), 2);
        x.width(3);
        is("image(0) again", x.image(0), 1);
        x.width(5);
        x.restore(0);
        is("width of 0", x.told(4), 3);
        for (int k : new int[] {2, -1, LEAST, MOST}) {
            is("image(" + k + ")", x.image(k), OUTSIDE);
        }
    }

    private static void promise29() {
        check.part("promise 29");
        RavelKnit x = new RavelKnit();
        is("restore(0), not kept", x.restore(0), STATE);
        x.facts(6);
        x.fact(5, true);
        x.temper(3, 2);
        x.width(9);
        Check.knit(x, "Da+Da+?.");
        x.seen(0, 3);
        x.seen(1, 3);
        x.image(0);
        is("restore(1), not kept", x.restore(1), STATE);
        String kept = Check.seen(x);
        Check.knit(x, "?!!");
        x.temper(3, 0);
        x.seen(2, 2);
        x.facts(2);
        x.fact(0, true);
        is("restore(0)", x.restore(0), 1);
        check.holds("it is as it was", Check.seen(x).equals(kept));
        x.forget();
        x.seen(7, 7);
        Check.knit(x, "!!Fa+");
        is("restore(0) again", x.restore(0), 1);
        check.holds("it is as it was again", Check.seen(x).equals(kept));
        Check.say(x, "Ab");
        x.restore(0);
        is("the pad stays", x.told(0), 2);
        for (int k : new int[] {2, -1, LEAST, MOST}) {
            is("restore(" + k + ")", x.restore(k), OUTSIDE);
        }
    }

    private static void promise30() {
        check.part("promise 30");
        RavelKnit x = new RavelKnit();
        x.facts(5);
        x.fact(4, true);
        x.fact(1, true);
        Check.knit(x, "Aa+.?");
        x.seen(0, 2);
        for (int guest = 0; guest < 6; guest++) {
            x.temper(guest, guest % 3);
        }
        Check.say(x, "zzzz");
        is("told(0)", x.told(0), 4);
        is("told(1)", x.told(1), 5);
        is("told(2)", x.told(2), 18);
        is("told(3)", x.told(3), 2);
        is("told(4)", x.told(4), 19);
        is("told(5)", x.told(5), 1);
        for (int guest = 0; guest < 6; guest++) {
            is("told(" + (10 + guest) + ")", x.told(10 + guest), guest % 3);
        }
        for (int what : new int[] {-1, 6, 7, 8, 9, 16, LEAST, MOST}) {
            is("told(" + what + ")", x.told(what), OUTSIDE);
        }
    }
}
