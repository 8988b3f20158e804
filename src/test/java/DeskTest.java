/** Promises 22 to 31: report, strike, fade, weight, likely, likeliest, counted, troops, shift, held. */
public final class DeskTest {
    private static final Due due = new Due();

    public static void main(String[] args) {
        report();
        creditOfSources();
        strike();
        fade();
        weight();
        fadesAtItsEdges();
        latestTwelve();
        greatestWeights();
        likely();
        likeliestAndCounted();
        troops();
        shift();
        greatestRests();
        heldBeforeAny();
        due.end();
    }

    private static void report() {
        GhostCoast x = new GhostCoast();
        due.is("report of none", x.report(0, 0), Due.BEYOND);
        x.prisoner(2, true);
        due.is("report -1", x.report(-1, 0), Due.BEYOND);
        due.is("report 1", x.report(1, 0), Due.BEYOND);
        due.is("what -1", x.report(0, -1), Due.BEYOND);
        due.is("what 8", x.report(0, 8), Due.BEYOND);
        due.is("struck", x.report(0, 6), 0);
        x.strike(0);
        due.is("struck", x.report(0, 6), 1);
        due.is("credit of a struck one", x.report(0, 7), 3);
    }

    /** One report of each source: 0 flight, 1 listener, 2 voice, 3 paper, 4 prisoner, 5 film. */
    private static void creditOfSources() {
        GhostCoast x = new GhostCoast();
        Due.shown(x, 0, 100, 0, 0);
        Due.shown(x, 3, 200, 0, 2);
        Due.shown(x, 4, 300, 401, 0);
        Due.shown(x, 5, 0, 300, 0);
        x.flight(0, 0, 5);
        x.listen(0);
        x.tell(2);
        x.tick(1);
        x.prisoner(0, false);
        x.sheet(0, 8, 1);
        x.write(0, 0, 2);
        x.film(0, 0);
        // The stories' places are all cell 0, but there is no unit that a flight could see.
        EyesTest.report(due, x, 0, 2, 3, 1, 0, 0, 2, 0, 4);
        EyesTest.report(due, x, 1, 0, 1, 1, 0, 5, 0, 0, 2);
        EyesTest.report(due, x, 2, 1, 2, 1, 0, 0, 1, 0, 1);
        EyesTest.report(due, x, 3, 3, 0, 1, 0, 0, 3, 0, 3);
        EyesTest.report(due, x, 4, 4, 0, 0, 1, 1, -1, 0, 3);
        EyesTest.report(due, x, 5, 5, 1, 0, 0, 1, 0, 0, 2);
        due.is("reports", x.count(3), 6);
    }

    private static void strike() {
        GhostCoast x = new GhostCoast();
        Due.shown(x, 4, 100, 309, 0);
        Due.shown(x, 0, 200, 0, 0);
        x.tell(0);
        x.tell(0);
        x.flight(0, 3, 2);
        x.tick(1);
        due.is("not known yet", x.strike(2), Due.NONE);
        due.is("strike a voice", x.strike(0), 3);
        due.is("trust", x.of(0, 12), 1);
        due.is("credit of its other report", x.report(1, 7), 1);
        due.is("struck", x.strike(0), Due.STATE);
        due.is("strike the other", x.strike(1), 1);
        due.is("trust", x.of(0, 12), 0);
        x.tick(1);
        due.is("strike a flight", x.strike(2), 2);
        due.is("strike -1", x.strike(-1), Due.BEYOND);
        due.is("strike 3", x.strike(3), Due.BEYOND);
        due.is("none is counted", x.counted(2), 0);
        due.is("struck ones are known", x.known(2), 3);
        Due.shown(x, 4, 0, 401, 0);
        due.is("a voice of trust 4", x.tell(2), 3);
        due.is("strike it", x.strike(3), 4);
        due.is("half of 4", x.of(2, 12), 2);
        x.sheet(0, 8, 3);
        x.write(0, 2, 1);
        x.film(0, 0);
        due.is("strike a film of the voice", x.strike(4), 2);
        due.is("its trust stays", x.of(2, 12), 2);
        x.prisoner(1, false);
        due.is("strike a prisoner", x.strike(5), 3);
        x.show(5, 0, 400);
        x.stand(3, true);
        x.tick(1);
        due.is("strike a paper", x.strike(6), 4);
        due.is("its credit stays", x.report(6, 7), 4);
    }

    private static void fade() {
        GhostCoast x = new GhostCoast();
        due.is("fade", x.fade(1), 9);
        due.is("fade", x.fade(30), 1);
        due.is("fade 0", x.fade(0), Due.BEYOND);
        due.is("fade 31", x.fade(31), Due.BEYOND);
        due.is("fade as it was", x.count(13), 30);
        x.fade(2);
        x.prisoner(1, true);
        x.tick(48);
        due.is("got 48 hours ahead", x.counted(48), 1);
        due.is("weight at 48", x.weight(1), 4);
        due.is("got 49 hours ahead", x.counted(49), 0);
        x.tick(1);
        due.is("weight at 49", x.weight(1), 1);
        x.fade(3);
        due.is("weight when it fades later", x.weight(1), 4);
    }

    private static void fadesAtItsEdges() {
        for (int fade : new int[] {1, 9, 30}) {
            GhostCoast x = new GhostCoast();
            x.fade(fade);
            x.tick(5);
            x.prisoner(1, true);
            due.is("ahead of it", x.counted(4), 0);
            due.is("then", x.counted(5), 1);
            due.is("24 times " + fade + " behind", x.counted(5 + 24 * fade), 1);
            due.is("24 times " + fade + " behind, likeliest", x.likeliest(5 + 24 * fade), 1);
            due.is("one more behind", x.counted(6 + 24 * fade), 0);
            due.is("one more behind, likeliest", x.likeliest(6 + 24 * fade), 0);
        }
    }

    /** Twelve of TRUST 4: 5 to the 12th, times 900 more than an int holds. */
    private static void greatestWeights() {
        GhostCoast x = new GhostCoast();
        for (int i = 0; i < 2; i++) Due.shown(x, 4, 200, 409, 0);
        for (int i = 0; i < 12; i++) x.tell(i % 2);
        due.is("the greatest weight", x.weight(2), 244140625);
        due.is("of it, above", x.likely(2, false), 244140625);
        due.is("of it, below", x.likely(2, true), 244140628);
        x.troops(900);
        due.is("all to one", x.shift(), 1);
        due.is("held", x.held(2), 900);
        x.tell(0);
        due.is("no more than twelve", x.weight(2), 244140625);
        GhostCoast y = new GhostCoast();
        y.sheet(0, 8, 12);
        for (int i = 0; i < 12; i++) y.write(0, i, 2);
        for (int i = 0; i < 12; i++) y.show(0, 100, 0);
        y.film(0, 0);
        due.is("against it", y.weight(1), 1);
        for (int s = 0; s < 4; s++) if (s != 1) due.is("another", y.weight(s), 531441);
        due.is("below", y.likely(1, true), 3 * 531441 + 1);
        y.troops(900);
        due.is("to three", y.shift(), 3);
        for (int s = 0; s < 4; s++) due.is("held " + s, y.held(s), s == 1 ? 0 : 300);
    }

    private static void weight() {
        GhostCoast x = new GhostCoast();
        x.prisoner(1, true);
        x.prisoner(2, false);
        due.is("weight 0", x.weight(0), 4);
        due.is("weight 1", x.weight(1), 16);
        due.is("weight 2", x.weight(2), 1);
        due.is("weight 3", x.weight(3), 4);
        due.is("weight -1", x.weight(-1), Due.BEYOND);
        due.is("weight 4", x.weight(4), Due.BEYOND);
        x.show(0, 300, 0);
        x.stand(0, true);
        x.flight(0, 0, 1);
        x.tick(1);
        due.is("known from the open hour on", x.weight(3), 12);
        GhostCoast y = new GhostCoast();
        y.show(0, 300, 0);
        y.stand(0, true);
        y.flight(0, 0, 2);
        y.tick(1);
        due.is("not known yet", y.weight(3), 1);
    }

    private static void latestTwelve() {
        GhostCoast x = new GhostCoast();
        x.show(0, 200, 0);
        x.sheet(0, 8, 1);
        x.write(0, 0, 1);
        x.tick(2);
        x.prisoner(3, true);
        for (int i = 0; i < 11; i++) x.prisoner(0, true);
        due.is("twelve", x.weight(0), 1L << 22);
        due.is("the first of twelve", x.weight(3), 4);
        x.film(0, 1);
        due.is("a film got ahead of all doesn't count", x.weight(2), 1);
        due.is("counted", x.counted(2), 12);
        x.prisoner(1, true);
        due.is("of like hours the least number falls out", x.weight(3), 1);
        due.is("the latest", x.weight(1), 4);
        x.film(0, 2);
        due.is("a film of the open hour counts", x.weight(2), 3);
        due.is("and one more falls out", x.weight(0), 1L << 20);
        x.strike(13);
        due.is("a struck one gives room", x.weight(0), 1L << 22);
    }

    private static void likely() {
        GhostCoast x = new GhostCoast();
        due.is("likely of nothing, above", x.likely(2, false), 1);
        due.is("likely of nothing, below", x.likely(2, true), 4);
        x.prisoner(1, true);
        x.prisoner(1, true);
        x.prisoner(2, true);
        // 1, 16, 4, 1 of 22.
        due.is("likely 1 above", x.likely(1, false), 8);
        due.is("likely 1 below", x.likely(1, true), 11);
        due.is("likely 2 above", x.likely(2, false), 2);
        due.is("likely 2 below", x.likely(2, true), 11);
        due.is("likely 0 above", x.likely(0, false), 1);
        due.is("likely 0 below", x.likely(0, true), 22);
        due.is("likely -1", x.likely(-1, true), Due.BEYOND);
        due.is("likely 4", x.likely(4, false), Due.BEYOND);
    }

    private static void likeliestAndCounted() {
        GhostCoast x = new GhostCoast();
        due.is("likeliest of like ones", x.likeliest(0), 0);
        x.tick(10);
        x.prisoner(2, true);
        due.is("ahead of the report", x.likeliest(9), 0);
        due.is("counted ahead of it", x.counted(9), 0);
        due.is("in its hour", x.likeliest(10), 2);
        due.is("counted in its hour", x.counted(10), 1);
        due.is("until it fades", x.likeliest(226), 2);
        due.is("counted until it fades", x.counted(226), 1);
        due.is("faded", x.likeliest(227), 0);
        due.is("counted when faded", x.counted(227), 0);
        x.prisoner(1, true);
        due.is("of like ones the least", x.likeliest(10), 1);
        due.is("hour -1", x.likeliest(-1), Due.BEYOND);
        due.is("hour 1944", x.likeliest(1944), Due.BEYOND);
        due.is("hour 1943", x.likeliest(1943), 0);
        due.is("counted -1", x.counted(-1), Due.BEYOND);
        due.is("counted 1944", x.counted(1944), Due.BEYOND);
        due.is("counted 1943", x.counted(1943), 0);
        due.is("counted 0", x.counted(0), 0);
        due.is("likeliest 0", x.likeliest(0), 0);
    }

    private static void troops() {
        GhostCoast x = new GhostCoast();
        due.is("troops", x.troops(900), 0);
        due.is("troops -1", x.troops(-1), Due.BEYOND);
        due.is("troops 901", x.troops(901), Due.BEYOND);
        due.is("not parted yet", x.held(0), 0);
        due.is("troops", x.troops(0), 900);
        due.is("troops", x.count(14), 0);
    }

    private static void shift() {
        GhostCoast x = new GhostCoast();
        due.is("shift of no troops", x.shift(), 0);
        x.troops(900);
        due.is("shift", x.shift(), 4);
        due.is("shift again", x.shift(), 0);
        for (int s = 0; s < 4; s++) due.is("held", x.held(s), 225);
        x.prisoner(3, true);
        x.prisoner(3, true);
        x.prisoner(2, true);
        x.troops(11);
        // 1, 1, 4, 16 of 22: 0.5, 0.5, 2, 8: the one that is left goes to the least of like rests.
        due.is("shift", x.shift(), 4);
        due.is("held 0", x.held(0), 1);
        due.is("held 1", x.held(1), 0);
        due.is("held 2", x.held(2), 2);
        due.is("held 3", x.held(3), 8);
        x.troops(10);
        // 10 / 22, 10 / 22, 40 / 22, 160 / 22: 0, 0, 1, 7, rests 10, 10, 18, 6: to 2, then to 0.
        due.is("shift", x.shift(), 1);
        due.is("held 0", x.held(0), 1);
        due.is("held 1", x.held(1), 0);
        due.is("held 2", x.held(2), 2);
        due.is("held 3", x.held(3), 7);
        due.is("held -1", x.held(-1), Due.BEYOND);
        due.is("held 4", x.held(4), Due.BEYOND);
    }

    /** The greatest rest is once of each story. */
    private static void greatestRests() {
        for (int best = 0; best < 4; best++) {
            GhostCoast x = new GhostCoast();
            x.prisoner(best, true);
            x.troops(2);
            // 8 of 7 for it, 2 of 7 for each other: 1, and rests of 1, 2, 2, 2: one to the least of the others.
            due.is("two troops", x.shift(), 2);
            for (int s = 0; s < 4; s++) {
                int want = (s == best ? 1 : 0) + (s == (best == 0 ? 1 : 0) ? 1 : 0);
                due.is("held " + s, x.held(s), want);
            }
            x.troops(1);
            // 4 of 7 is the greatest rest.
            x.shift();
            for (int s = 0; s < 4; s++) due.is("held of one " + s, x.held(s), s == best ? 1 : 0);
            x.troops(3);
            // 12 of 7, 3 of 7 thrice: 1 and a rest of 5, so 2, and one to the least of the others.
            x.shift();
            for (int s = 0; s < 4; s++) {
                int want = s == best ? 2 : s == (best == 0 ? 1 : 0) ? 1 : 0;
                due.is("held of three " + s, x.held(s), want);
            }
        }
    }

    private static void heldBeforeAny() {
        GhostCoast x = new GhostCoast();
        x.troops(50);
        x.prisoner(1, true);
        for (int s = 0; s < 4; s++) due.is("held ahead of any shift", x.held(s), 0);
    }
}
