/** What a test holds answers against: it tells each one that isn't due, and fails at the end. */
final class Due {
    static final long BEYOND = -1000001, FULL = -1000002, KIND = -1000003, NONE = -1000004, STATE = -1000005,
        MISSING = -1000006, SIZE = -1000007;

    private int wrong = 0;

    void is(String call, long got, long want) {
        if (got == want) return;
        wrong++;
        System.out.println(call + " answered " + got + ", due is " + want);
    }

    void end() {
        System.out.println(wrong == 0 ? "all answers are as due" : wrong + " answers are not as due");
        if (wrong != 0) System.exit(1);
    }

    /** Feeds signs to THE TAPE, four at a time. */
    static void feed(GhostCoast x, String signs) {
        for (int at = 0; at < signs.length(); at += 4) {
            int n = Math.min(4, signs.length() - at);
            int bytes = 0;
            for (int i = 0; i < n; i++) bytes = bytes << 8 | signs.charAt(at + i);
            x.feed(bytes, n);
        }
    }

    /** Feeds signs as a TEXT for days; what is left on THE TAPE is wiped. */
    static int text(GhostCoast x, String signs, int from, int to) {
        feed(x, signs);
        int number = x.text(from, to);
        x.wipe();
        return number;
    }

    /** A SHOW that STANDS with HANDS out of a POOL that is put there for it. */
    static int shown(GhostCoast x, int kind, int at, int numbers, int hands) {
        x.purse(900, 9000);
        int show = x.show(kind, at, numbers);
        x.hands(show, hands);
        x.stand(show, true);
        return show;
    }
}
