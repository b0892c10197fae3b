/** Counts what is as due and what is not; a test's main ends with exit code 1 if anything is not. */
final class Check {
    private final String of;
    private int asDue = 0;
    private int wrong = 0;
    private String part = "";

    Check(String of) {
        this.of = of;
    }

    void part(String name) {
        part = name;
    }

    void is(String call, long got, long due) {
        if (got == due) {
            asDue++;
            return;
        }
        wrong++;
        if (wrong <= 40) {
            System.out.println(of + ", " + part + ": " + call + " answered " + got + ", due is " + due);
        }
    }

    void holds(String what, boolean is) {
        is(what, is ? 1 : 0, 1);
    }

    void end() {
        System.out.println(of + ": " + asDue + " answers as due, " + wrong + " not");
        if (wrong != 0) {
            System.exit(1);
        }
    }

    /** Says each sign of a text. */
    static RavelKnit say(RavelKnit x, String text) {
        for (char sign : text.toCharArray()) {
            x.say(sign);
        }
        return x;
    }

    /** Puts a text on the pad in the place of what is there. */
    static RavelKnit pad(RavelKnit x, String text) {
        x.wipe();
        return say(x, text);
    }

    /** An object whose rows are what the evening leaves; the pad is empty. */
    static RavelKnit knitted(String evening) {
        RavelKnit x = new RavelKnit();
        knit(x, evening);
        return x;
    }

    static void knit(RavelKnit x, String evening) {
        pad(x, evening);
        if (x.done() < 0) {
            throw new IllegalStateException("a test's evening can not be: " + evening);
        }
    }

    /** All that can be seen of an object without changing it, but for what the pad tells. */
    static String seen(RavelKnit x) {
        StringBuilder text = new StringBuilder();
        for (int what = 0; what <= 15; what = what == 5 ? 10 : what + 1) {
            text.append(x.told(what)).append(' ');
        }
        for (int row = 0; row < x.told(3); row++) {
            text.append(x.state(row, 0)).append('/').append(x.state(row, 1)).append('/').append(x.state(row, 2)).append(' ');
        }
        return text.append(x.fault(0)).append(' ').append(x.fault(1)).append(' ').append(x.worlds(0)).toString();
    }
}
