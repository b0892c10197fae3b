/** Objects in states of many kinds, each made anew by the same calls whenever it is wanted. */
enum Scene {
    /** As it is made. */
    NEW,
    /** Something of all kinds; the evening on the pad can be. */
    RICH,
    /** One remark of the evening on the pad can not be. */
    BARRED,
    /** The pad is at fault, as an evening and as a pattern. */
    BROKEN,
    /** As BARRED and BROKEN at once. */
    BARRED_AND_BROKEN,
    /** The pad is a pattern. */
    PATTERN,
    /** The pad is a pattern of 31 rows. */
    LONG_PATTERN,
    /** The pad is of 31 rows, and at fault. */
    LONG_AND_BROKEN,
    /** Thirty rows, no width, eight sights, sixty signs. */
    FULL;

    private String answers = null;

    RavelKnit make() {
        switch (this) {
            case NEW:
                return new RavelKnit();
            case RICH:
                return Check.say(rich(), "Cb+?Fc+Fc+");
            case BARRED:
                return Check.say(rich(), "Cb+.Aa+?");
            case BROKEN:
                return Check.say(rich(), "Cb+Ag+Ca");
            case BARRED_AND_BROKEN:
                return Check.say(rich(), "Aa+A");
            case PATTERN:
                return Check.say(rich(), "CC*mEB");
            case LONG_PATTERN:
                return Check.say(rich(), "CC*" + "m".repeat(29));
            case LONG_AND_BROKEN:
                return Check.say(rich(), "CC*" + "m".repeat(29) + "*");
            default:
                return full();
        }
    }

    /** Six rows C C* m D E E of three widths; both images are kept. */
    private static RavelKnit rich() {
        RavelKnit x = new RavelKnit();
        x.facts(6);
        x.fact(1, true);
        x.fact(5, true);
        x.temper(0, 1);
        x.temper(1, 2);
        Check.knit(x, "Ca+Ca+?.Da+");
        x.seen(0, 4);
        x.image(0);
        x.width(7);
        x.temper(5, 2);
        Check.knit(x, "Ea+?Ea+");
        x.forget();
        x.seen(0, 6);
        x.seen(1, 5);
        x.image(1);
        return x;
    }

    private static RavelKnit full() {
        RavelKnit x = Check.knitted("Aa+Aa+?Ba+?Ba+...?Ca+Aa+" + ".".repeat(21));
        x.width(0);
        for (int i = 0; i < 8; i++) {
            x.seen(i, 30 - i);
        }
        return Check.say(x, "Aa-".repeat(20));
    }

    /** All answers of such an object that nothing else was asked of. */
    String answers() {
        if (answers == null) {
            answers = answersOf(make());
        }
        return answers;
    }

    /**
     * All that an object answers, in 350 calls at most, as an object is good for 512. What changes
     * it is asked last, so that it is of no use afterwards.
     */
    static String answersOf(RavelKnit x) {
        StringBuilder all = new StringBuilder();
        ofNow(all, x);
        ofPad(all, x);
        ofChances(all, x);
        // The signs behind a fault are told by what one more of them does.
        all.append("| say ").append(x.say('+')).append(' ').append(x.fault(0)).append(' ').append(x.fault(1));
        all.append("| wipe ").append(x.wipe());
        ofWorlds(all, x);
        Check.say(x, ".!?Aa+Ab-");
        ofWorlds(all, x);
        all.append("| judge ").append(x.judge(0)).append(' ').append(x.judge(1)).append("| done ").append(x.done());
        all.append("| forget ").append(x.forget());
        ofNow(all, x);
        for (int k = 0; k < 2; k++) {
            int restored = x.restore(k);
            all.append("| restore ").append(restored);
            if (restored == 1) {
                ofNow(all, x);
                ofWorlds(all, x);
            }
        }
        return all.toString();
    }

    private static void ofNow(StringBuilder all, RavelKnit x) {
        all.append("| now");
        for (int what = 0; what <= 15; what = what == 5 ? 10 : what + 1) {
            all.append(' ').append(x.told(what));
        }
        int rows = x.told(3);
        for (int row = 0; row < rows; row++) {
            all.append(' ').append(x.state(row, 0)).append('/').append(x.state(row, 1)).append('/').append(x.state(row, 2));
        }
    }

    private static void ofPad(StringBuilder all, RavelKnit x) {
        all.append("| pad ").append(x.fault(0)).append(' ').append(x.fault(1));
        for (int what = 0; what < 4; what++) {
            all.append(' ').append(x.judge(what)).append(' ').append(x.behind(what));
        }
        int rows = x.told(3);
        for (int row = 0; row < rows; row++) {
            all.append(" lost ").append(x.lost(row));
        }
        int behind = x.behind(0);
        for (int row = 0; row < behind; row++) {
            all.append(' ').append(x.row(row, 0)).append('/').append(x.row(row, 1)).append('/').append(x.row(row, 2));
        }
        all.append("| made ").append(x.made()).append(' ').append(x.bars());
        for (int guest = 0; guest < 6; guest++) {
            all.append(' ').append(x.says(guest));
        }
        ofWorlds(all, x);
    }

    private static void ofWorlds(StringBuilder all, RavelKnit x) {
        all.append("| worlds");
        for (int what = 0; what < 4; what++) {
            all.append(' ').append(x.worlds(what));
        }
        all.append(" tell ").append(x.tell(0)).append(' ').append(x.tell(1));
    }

    private static void ofChances(StringBuilder all, RavelKnit x) {
        all.append("| chances ").append(x.orders(3, 4, 1, 3)).append(' ').append(x.left(3, 4, 1, 1));
        for (int part = 0; part < 2; part++) {
            all.append(' ').append(x.chance(3, 4, x.told(3), part)).append(' ').append(x.chance(2, 3, -1, part));
        }
        all.append(' ').append(x.over(3, 4, 8, 1, 2)).append(' ').append(x.patterns(2));
        for (int what = 0; what < 3; what++) {
            all.append(' ').append(x.draws(7, 20, what));
        }
    }
}
