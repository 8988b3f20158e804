/** Promises 11 to 16: show, as, of, stand, hands, mend. */
public final class ShowsTest {
    private static final Due due = new Due();

    public static void main(String[] args) {
        show();
        numbersOfKinds();
        as();
        of();
        pricesOfNets();
        shown();
        stand();
        hands();
        mend();
        due.end();
    }

    private static void show() {
        GhostCoast x = new GhostCoast();
        due.is("show", x.show(0, 395, 909), 0);
        due.is("its kind", x.of(0, 0), 0);
        due.is("its story", x.of(0, 1), 3);
        due.is("its cell", x.of(0, 2), 95);
        due.is("kind -1", x.show(-1, 0, 0), Due.BEYOND);
        due.is("kind 7", x.show(7, 0, 0), Due.BEYOND);
        due.is("story 4", x.show(0, 400, 0), Due.BEYOND);
        due.is("cell 96", x.show(0, 96, 0), Due.BEYOND);
        due.is("cell 99", x.show(0, 199, 0), Due.BEYOND);
        due.is("at -1", x.show(0, -1, 0), Due.BEYOND);
        due.is("at -100", x.show(0, -100, 0), Due.BEYOND);
        due.is("numbers -1", x.show(0, 0, -1), Due.BEYOND);
        due.is("numbers least", x.show(0, 0, Integer.MIN_VALUE), Due.BEYOND);
        for (int i = 1; i < 20; i++) due.is("show", x.show(0, 0, 0), i);
        due.is("show 20", x.show(0, 0, 0), Due.FULL);
        due.is("show wrong and full", x.show(0, 0, 1000), Due.BEYOND);
        due.is("shows", x.count(2), 20);
    }

    private static void numbersOfKinds() {
        GhostCoast x = new GhostCoast();
        due.is("quiet of no unit", x.show(6, 0, 0), Due.BEYOND);
        x.unit(0, 1);
        int[][] right = {{0, 909}, {1, 909}, {2, 909}, {3, 2323}, {3, 23}, {4, 409}, {5, 499}, {6, 9}};
        for (int i = 0; i < right.length; i++) due.is("right", x.show(right[i][0], 0, right[i][1]), i);
        int[][] wrong = {{0, 1000}, {0, 10}, {1, 1000}, {1, 910}, {2, 1009}, {2, 10}, {3, 2400}, {3, 24}, {3, 2322},
            {3, 100}, {4, 500}, {4, 10}, {5, 500}, {6, 100}, {6, 10}, {0, Integer.MAX_VALUE}};
        for (int[] w : wrong) due.is("kind " + w[0] + " of " + w[1], x.show(w[0], 0, w[1]), Due.BEYOND);
        while (x.count(1) < 12) x.unit(0, 1);
        due.is("quiet of the last unit", x.show(6, 0, 1109), right.length);
        due.is("quiet of a unit behind it", x.show(6, 0, 1200), Due.BEYOND);
    }

    private static void as() {
        GhostCoast x = new GhostCoast();
        x.unit(0, 1);
        for (int kind = 0; kind <= 6; kind++) x.show(kind, 0, 0);
        for (int kind = 0; kind <= 6; kind++) {
            for (int above = 0; above <= 6; above++) {
                boolean is = above == 0 || kind == above || kind == 2 && above == 1;
                due.is("as(" + kind + ", " + above + ")", x.as(kind, above), is ? kind : Due.KIND);
            }
        }
        due.is("as show -1", x.as(-1, 0), Due.BEYOND);
        due.is("as show 7", x.as(7, 0), Due.BEYOND);
        due.is("as kind -1", x.as(0, -1), Due.BEYOND);
        due.is("as kind 7", x.as(0, 7), Due.BEYOND);
    }

    private static void of() {
        GhostCoast x = new GhostCoast();
        x.unit(0, 1);
        int[] numbers = {709, 604, 503, 520, 307, 233, 5};
        for (int kind = 0; kind <= 6; kind++) x.show(kind, 100 * (kind % 4) + kind, numbers[kind]);
        long k = Due.KIND;
        long[][] want = {
            {0, 0, 0, 0, 0, 0, 0, 1, 0, 0, 0, k, k, k},
            {1, 1, 1, 0, 0, 0, 1, 2, 0, 0, 6, 4, k, k},
            {2, 2, 2, 0, 0, 0, 4, 5, 0, 0, 5, 3, k, k},
            {3, 3, 3, 0, 0, 0, 2, 16, 0, 0, k, k, k, k},
            {4, 0, 4, 0, 0, 0, 0, 1, 0, 0, k, k, 3, 7},
            {5, 1, 5, 0, 0, 0, 0, 0, 0, 0, k, k, k, k},
            {6, 2, 6, 0, 0, 0, 0, 0, 0, 0, k, k, k, k}};
        for (int i = 0; i < want.length; i++) {
            for (int what = 0; what <= 13; what++) due.is("of(" + i + ", " + what + ")", x.of(i, what), want[i][what]);
        }
        due.is("of show -1", x.of(-1, 0), Due.BEYOND);
        due.is("of show 7", x.of(7, 0), Due.BEYOND);
        due.is("of what -1", x.of(0, -1), Due.BEYOND);
        due.is("of what 14", x.of(0, 14), Due.BEYOND);
        due.is("of what 14 of a voice", x.of(4, 14), Due.BEYOND);
    }

    private static void pricesOfNets() {
        int[] numbers = {0, 707, 2323, 1, 1020, 22, 123, 23};
        int[] prices = {1, 1, 1, 2, 11, 23, 23, 24};
        GhostCoast x = new GhostCoast();
        for (int i = 0; i < numbers.length; i++) {
            due.is("net", x.show(3, 0, numbers[i]), i);
            due.is("price of a net of " + numbers[i], x.of(i, 7), prices[i]);
            due.is("need of a net", x.of(i, 6), 2);
        }
    }

    private static void shown() {
        GhostCoast x = new GhostCoast();
        x.purse(900, 9000);
        int[] needs = {0, 1, 4, 2, 0, 0, 0};
        x.unit(0, 1);
        for (int kind = 0; kind <= 6; kind++) {
            x.show(kind, 0, 0);
            due.is("shown that doesn't stand", x.of(kind, 9), 0);
            x.hands(kind, needs[kind]);
            x.stand(kind, true);
            due.is("shown", x.of(kind, 9), 1);
            if (needs[kind] == 0) continue;
            x.hands(kind, needs[kind] - 1);
            due.is("shown with a hand too few", x.of(kind, 9), 0);
            x.hands(kind, needs[kind] + 1);
            due.is("shown with a hand more", x.of(kind, 9), 1);
        }
        x.weather(1, 0);
        x.tick(1);
        due.is("shown when broken", x.of(1, 9), 0);
        due.is("stands when broken", x.of(1, 3), 1);
        due.is("bar", Due.text(x, "bar net", 0, 0), 0);
        due.is("shown when barred", x.of(3, 9), 0);
        due.is("shown when not barred", x.of(4, 9), 1);
    }

    private static void stand() {
        GhostCoast x = new GhostCoast();
        x.show(0, 0, 0);
        due.is("stand not, new", x.stand(0, false), 0);
        due.is("stand", x.stand(0, true), 1);
        due.is("stand again", x.stand(0, true), 0);
        due.is("it stands", x.of(0, 3), 1);
        due.is("standing", x.count(10), 1);
        due.is("stand no more", x.stand(0, false), 1);
        due.is("it stands not", x.of(0, 3), 0);
        due.is("stand -1", x.stand(-1, true), Due.BEYOND);
        due.is("stand 1", x.stand(1, true), Due.BEYOND);
        paperComesToStand();
    }

    /** A paper is found by the hour in which it came to stand, not by that of a stand() that isn't new. */
    private static void paperComesToStand() {
        GhostCoast x = new GhostCoast();
        x.show(5, 0, 102);
        x.stand(0, true);
        x.tick(1);
        x.stand(0, true);
        x.tick(1);
        due.is("not found yet", x.count(3), 0);
        x.stand(0, false);
        x.stand(0, true);
        x.tick(2);
        due.is("not found yet, stood anew", x.count(3), 0);
        x.tick(1);
        due.is("found", x.count(3), 1);
        GhostCoast y = new GhostCoast();
        y.show(5, 0, 199);
        y.tick(3);
        y.stand(0, true);
        y.tick(99);
        due.is("98 hours behind", y.count(3), 0);
        y.tick(1);
        due.is("99 hours behind", y.count(3), 1);
        due.is("got then", y.report(0, 3), 102);
    }

    private static void hands() {
        GhostCoast x = new GhostCoast();
        x.show(0, 0, 0);
        x.show(0, 0, 0);
        x.purse(100, 0);
        due.is("hands", x.hands(0, 90), 10);
        due.is("hands of it", x.of(0, 5), 90);
        due.is("too many", x.hands(1, 11), Due.SIZE);
        due.is("all", x.hands(1, 10), 0);
        due.is("fewer", x.hands(0, 40), 50);
        due.is("hands -1", x.hands(0, -1), Due.BEYOND);
        due.is("hands 91", x.hands(0, 91), Due.BEYOND);
        due.is("hands of -1", x.hands(-1, 0), Due.BEYOND);
        due.is("hands of 2", x.hands(2, 0), Due.BEYOND);
        x.purse(861, 0);
        due.is("above 900", x.hands(0, 0), Due.SIZE);
        due.is("900", x.hands(0, 1), 900);
        due.is("as many", x.hands(0, 1), 900);
    }

    private static void mend() {
        GhostCoast x = new GhostCoast();
        Due.shown(x, 1, 0, 905, 2);
        due.is("mend what isn't broken", x.mend(0), Due.STATE);
        x.weather(6, 0);
        x.tick(1);
        due.is("broken", x.of(0, 4), 1);
        due.is("mend", x.mend(0), 1);
        due.is("whole", x.of(0, 4), 0);
        due.is("the pool", x.count(8), 898);
        x.tick(1);
        due.is("mend the last hand away", x.mend(0), 0);
        x.tick(1);
        due.is("broken again", x.of(0, 4), 1);
        due.is("mend with no hands", x.mend(0), Due.SIZE);
        due.is("still broken", x.of(0, 4), 1);
        due.is("it stands no more", x.stand(0, false), 1);
        due.is("it stands anew", x.stand(0, true), 1);
        due.is("broken all the same", x.of(0, 4), 1);
        due.is("mend -1", x.mend(-1), Due.BEYOND);
        due.is("mend 1", x.mend(1), Due.BEYOND);
    }
}
