/**
 * Each finding of each call, and where two are due, that which the document asks first; such a call changes
 * nothing but status(), and is counted there once.
 */
public final class FindingsTest {
    private static final Due due = new Due();
    private static final int MOST = Integer.MAX_VALUE;
    private static final int LEAST = Integer.MIN_VALUE;

    private FindingsTest() {
    }

    public static void main(String[] args) {
        coast();
        ways();
        shows();
        handsOfShows();
        eyes();
        tell();
        film();
        desk();
        texts();
        plans();
        hours();
        check();
        sheets();
        copy();
        images();
        answersThatAreNoFindings();
        due.end();
    }

    private static void refused(Coasts coast, long finding, String name, int... v) {
        BoundsTest.refused(due, coast, finding, name, v);
    }

    private static void coast() {
        refused(Coasts.RICH, Due.BEYOND, "cell", 96, 4);
        refused(Coasts.RICH, Due.BEYOND, "cell", LEAST, MOST);
        refused(Coasts.RICH, Due.BEYOND, "road", 0, 0, 1);
        refused(Coasts.RICH, Due.BEYOND, "road", 95, 95, 30);
        refused(Coasts.RICH, Due.BEYOND, "road", 96, 96, 31);
        refused(Coasts.CROWDED, Due.FULL, "road", 0, 1, 1);
        refused(Coasts.CROWDED, Due.BEYOND, "road", 7, 7, 1);
        refused(Coasts.CROWDED, Due.BEYOND, "road", 0, 1, 31);
        refused(Coasts.CROWDED, Due.BEYOND, "road", 0, 96, 1);
        refused(Coasts.CROWDED, Due.BEYOND, "road", -1, 0, 1);
        refused(Coasts.CROWDED, Due.FULL, "unit", 0, 1);
        refused(Coasts.CROWDED, Due.BEYOND, "unit", 0, 91);
        refused(Coasts.CROWDED, Due.BEYOND, "unit", 96, 1);
        refused(Coasts.RICH, Due.BEYOND, "weather", 10, 10);
        refused(Coasts.RICH, Due.BEYOND, "weather", 0, 10);
        refused(Coasts.RICH, Due.BEYOND, "purse", 0, 9001);
        refused(Coasts.RICH, Due.BEYOND, "purse", 901, 0);
        refused(Coasts.RICH, Due.BEYOND, "story", 4, 96);
    }

    private static void ways() {
        refused(Coasts.RICH, Due.STATE, "move", 1, 0);
        refused(Coasts.RICH, Due.STATE, "move", 1, 1);
        refused(Coasts.RICH, Due.STATE, "move", 2, 0);
        refused(Coasts.RICH, Due.STATE, "move", 2, 1);
        refused(Coasts.RICH, Due.KIND, "move", 0, 1);
        refused(Coasts.RICH, Due.BEYOND, "move", 1, 2);
        refused(Coasts.RICH, Due.BEYOND, "move", 2, -1);
        refused(Coasts.RICH, Due.BEYOND, "move", 3, 1);
        refused(Coasts.RICH, Due.BEYOND, "where", 3, 4);
        refused(Coasts.RICH, Due.STATE, "still", 1, 0);
        refused(Coasts.RICH, Due.STATE, "still", 1, 1);
        refused(Coasts.RICH, Due.KIND, "still", 0, 1);
        refused(Coasts.RICH, Due.KIND, "still", 2, 1);
        refused(Coasts.RICH, Due.BEYOND, "still", 1, 2);
        refused(Coasts.RICH, Due.BEYOND, "still", 3, 1);
        refused(Coasts.WATCHED, Due.NONE, "still", 0, 0);
        refused(Coasts.WATCHED, Due.KIND, "still", 0, 1);
        refused(Coasts.WATCHED, Due.STATE, "still", 1, 0);
        refused(Coasts.WATCHED, Due.BEYOND, "still", 0, 2);
    }

    private static void shows() {
        refused(Coasts.CROWDED, Due.FULL, "show", 0, 0, 0);
        refused(Coasts.CROWDED, Due.FULL, "show", 6, 395, 1109);
        refused(Coasts.CROWDED, Due.BEYOND, "show", 7, 0, 0);
        refused(Coasts.CROWDED, Due.BEYOND, "show", 0, 96, 0);
        refused(Coasts.CROWDED, Due.BEYOND, "show", 0, 400, 0);
        refused(Coasts.CROWDED, Due.BEYOND, "show", 0, 0, 10);
        refused(Coasts.CROWDED, Due.BEYOND, "show", 3, 0, 2322);
        refused(Coasts.CROWDED, Due.BEYOND, "show", 6, 0, 1200);
        refused(Coasts.RICH, Due.KIND, "as", 0, 1);
        refused(Coasts.RICH, Due.KIND, "as", 1, 2);
        refused(Coasts.RICH, Due.KIND, "as", 3, 1);
        refused(Coasts.RICH, Due.KIND, "as", 6, 5);
        refused(Coasts.RICH, Due.BEYOND, "as", 0, 7);
        refused(Coasts.RICH, Due.BEYOND, "as", 13, 1);
        refused(Coasts.RICH, Due.BEYOND, "stand", 13, 1);
        refused(Coasts.RICH, Due.BEYOND, "stand", 13, 0);
        for (int kind = 0; kind < 7; kind++) {
            if (kind > 2) refused(Coasts.RICH, Due.KIND, "of", kind, 10);
            if (kind != 1 && kind != 2) refused(Coasts.RICH, Due.KIND, "of", kind, 11);
            if (kind != 4) refused(Coasts.RICH, Due.KIND, "of", kind, 12);
            if (kind != 4) refused(Coasts.RICH, Due.KIND, "of", kind, 13);
            refused(Coasts.RICH, Due.BEYOND, "of", kind, 14);
        }
        refused(Coasts.RICH, Due.BEYOND, "of", 13, 12);
    }

    private static void handsOfShows() {
        refused(Coasts.SHORT, Due.SIZE, "hands", 0, 16);
        refused(Coasts.SHORT, Due.SIZE, "hands", 0, 90);
        refused(Coasts.SHORT, Due.BEYOND, "hands", 0, 91);
        refused(Coasts.SHORT, Due.BEYOND, "hands", 1, 16);
        refused(Coasts.BRIMMING, Due.SIZE, "hands", 0, 2);
        refused(Coasts.BRIMMING, Due.SIZE, "hands", 0, 0);
        refused(Coasts.BRIMMING, Due.BEYOND, "hands", 0, -1);
        refused(Coasts.BRIMMING, Due.BEYOND, "hands", 1, 0);
        due.is("all that there are", Coasts.SHORT.make().hands(0, 15), 0);
        due.is("up to 900", Coasts.BRIMMING.make().hands(0, 3), 900);
        refused(Coasts.RICH, Due.STATE, "mend", 1);
        refused(Coasts.RICH, Due.STATE, "mend", 0);
        refused(Coasts.RICH, Due.STATE, "mend", 10);
        refused(Coasts.RICH, Due.SIZE, "mend", 9);
        refused(Coasts.RICH, Due.BEYOND, "mend", 13);
    }

    private static void eyes() {
        refused(Coasts.RICH, Due.STATE, "flight", 29, 0, 0);
        refused(Coasts.RICH, Due.STATE, "flight", 0, 959, 48);
        refused(Coasts.RICH, Due.BEYOND, "flight", 29, 960, 0);
        refused(Coasts.RICH, Due.BEYOND, "flight", 29, -1, 0);
        refused(Coasts.RICH, Due.BEYOND, "flight", 29, 0, 49);
        refused(Coasts.RICH, Due.BEYOND, "flight", -1, 0, 0);
        refused(Coasts.RICH, Due.STATE, "listen", 29);
        refused(Coasts.RICH, Due.STATE, "listen", 0);
        refused(Coasts.RICH, Due.BEYOND, "listen", -1);
        refused(Coasts.CROWDED, Due.FULL, "flight", 2, 0, 0);
        refused(Coasts.CROWDED, Due.STATE, "flight", 1, 0, 0);
        refused(Coasts.CROWDED, Due.BEYOND, "flight", 1, 0, 49);
        refused(Coasts.CROWDED, Due.BEYOND, "flight", 1944, 0, 0);
        refused(Coasts.CROWDED, Due.FULL, "listen", 2);
        refused(Coasts.CROWDED, Due.STATE, "listen", 1);
        refused(Coasts.CROWDED, Due.BEYOND, "listen", 1944);
        refused(Coasts.CROWDED, Due.FULL, "prisoner", 3, 1);
        refused(Coasts.CROWDED, Due.FULL, "prisoner", 0, 0);
        refused(Coasts.CROWDED, Due.BEYOND, "prisoner", 4, 1);
    }

    private static void tell() {
        for (int show : new int[] {0, 1, 2, 3, 5, 6}) refused(Coasts.RICH, Due.KIND, "tell", show);
        refused(Coasts.RICH, Due.NONE, "tell", 7);
        refused(Coasts.RICH, Due.STATE, "tell", 8);
        refused(Coasts.RICH, Due.BEYOND, "tell", 13);
        refused(Coasts.CROWDED, Due.FULL, "tell", 4);
        refused(Coasts.CROWDED, Due.NONE, "tell", 18);
        refused(Coasts.CROWDED, Due.STATE, "tell", 11);
        refused(Coasts.CROWDED, Due.KIND, "tell", 0);
        refused(Coasts.CROWDED, Due.KIND, "tell", 1);
        refused(Coasts.CROWDED, Due.BEYOND, "tell", 20);
    }

    private static void film() {
        refused(Coasts.RICH, Due.MISSING, "film", 3, 0);
        refused(Coasts.RICH, Due.MISSING, "film", 3, 30);
        refused(Coasts.RICH, Due.BEYOND, "film", 3, 31);
        refused(Coasts.RICH, Due.BEYOND, "film", 3, -1);
        refused(Coasts.RICH, Due.BEYOND, "film", 4, 0);
        refused(Coasts.RICH, Due.BEYOND, "film", 0, 0);
        refused(Coasts.RICH, Due.BEYOND, "film", 1, 0);
        refused(Coasts.ENDED, Due.BEYOND, "film", 0, 0);
        refused(Coasts.ENDED, Due.MISSING, "film", 1, 0);
        refused(Coasts.CROWDED, Due.FULL, "film", 0, 0);
        refused(Coasts.CROWDED, Due.BEYOND, "film", 2, 0);
        refused(Coasts.CROWDED, Due.BEYOND, "film", 0, 3);
        due.is("no room for none", Coasts.CROWDED.make().film(1, 0), 0);
    }

    private static void desk() {
        refused(Coasts.RICH, Due.BEYOND, "report", 0, 8);
        refused(Coasts.RICH, Due.BEYOND, "report", 0, -1);
        refused(Coasts.RICH, Due.BEYOND, "report", 90, 0);
        refused(Coasts.RICH, Due.STATE, "strike", 0);
        GhostCoast x = Coasts.RICH.make();
        int late = 0;
        while (x.report(late, 4) <= 30 && late < 20) late++;
        due.is("one that isn't known yet", x.report(late, 4), 49);
        refused(Coasts.RICH, Due.NONE, "strike", late);
        refused(Coasts.RICH, Due.BEYOND, "strike", x.count(3));
        for (int n : new int[] {0, 31, LEAST, MOST}) refused(Coasts.RICH, Due.BEYOND, "fade", n);
        for (int n : new int[] {-1, 901, LEAST, MOST}) refused(Coasts.RICH, Due.BEYOND, "troops", n);
        for (String name : new String[] {"weight", "held"}) refused(Coasts.RICH, Due.BEYOND, name, 4);
        for (String name : new String[] {"likeliest", "counted", "known"}) refused(Coasts.RICH, Due.BEYOND, name, 1944);
        refused(Coasts.RICH, Due.BEYOND, "likely", 4, 1);
    }

    private static void texts() {
        refused(Coasts.CROWDED, Due.FULL, "feed", 0, 1);
        refused(Coasts.CROWDED, Due.FULL, "feed", 0, 4);
        refused(Coasts.CROWDED, Due.BEYOND, "feed", 0, 0);
        refused(Coasts.CROWDED, Due.BEYOND, "feed", 0, 5);
        refused(Coasts.CROWDED, Due.FULL, "text", 0, 0);
        refused(Coasts.CROWDED, Due.FULL, "text", 80, 80);
        refused(Coasts.CROWDED, Due.BEYOND, "text", 1, 0);
        refused(Coasts.CROWDED, Due.BEYOND, "text", 0, 81);
        refused(Coasts.CROWDED, Due.BEYOND, "text", -1, 0);
        refused(Coasts.RICH, Due.BEYOND, "text", 1, 0);
        refused(Coasts.RICH, Due.STATE, "drop", 1);
        refused(Coasts.RICH, Due.BEYOND, "drop", 2);
        refused(Coasts.RICH, Due.BEYOND, "drop", -1);
        refused(Coasts.RICH, Due.NONE, "why", 0);
        refused(Coasts.RICH, Due.NONE, "why", 6);
        refused(Coasts.RICH, Due.BEYOND, "why", 13);
        refused(Coasts.RICH, Due.BEYOND, "must", 13);
        refused(Coasts.RICH, Due.BEYOND, "may", 13);
    }

    /** 13 shows: 8191 is the set of them all, 1023 of the first ten. */
    private static void plans() {
        refused(Coasts.RICH, Due.SIZE, "plan", 0, 1023, 0, 0);
        refused(Coasts.RICH, Due.SIZE, "plan", 3, 8191, MOST, MOST);
        refused(Coasts.RICH, Due.BEYOND, "plan", 4, 1023, 0, 0);
        refused(Coasts.RICH, Due.BEYOND, "plan", 0, 8192 + 1023, 0, 0);
        refused(Coasts.RICH, Due.BEYOND, "plan", 0, LEAST, 0, 0);
        refused(Coasts.RICH, Due.BEYOND, "plan", 0, 1023, -1, 0);
        refused(Coasts.RICH, Due.BEYOND, "plan", 0, 1023, 0, -1);
        refused(Coasts.RICH, Due.BEYOND, "plan", 0, 0, LEAST, 0);
        for (int is = 0; is < 2; is++) {
            refused(Coasts.RICH, Due.SIZE, "judge", 0, 1023, is);
            refused(Coasts.RICH, Due.BEYOND, "judge", -1, 1023, is);
            refused(Coasts.RICH, Due.BEYOND, "judge", 0, 16383, is);
            refused(Coasts.RICH, Due.BEYOND, "judge", 0, MOST, is);
        }
        refused(Coasts.RICH, Due.SIZE, "last", 0, 1023);
        refused(Coasts.RICH, Due.SIZE, "last", 0, 8191);
        refused(Coasts.RICH, Due.BEYOND, "last", 4, 1023);
        refused(Coasts.RICH, Due.BEYOND, "last", 0, 16383);
        refused(Coasts.NEW, Due.NONE, "last", 0, 0);
        refused(Coasts.NEW, Due.BEYOND, "last", 0, 1);
        refused(Coasts.NEW, Due.BEYOND, "last", 4, 0);
        due.is("pair 0 of the rich coast", Coasts.RICH.make().agree(0, 0) >= 0 ? 1 : 0, 1);
        refused(Coasts.RICH, Due.BEYOND, "agree", 0, 3);
        refused(Coasts.RICH, Due.BEYOND, "agree", Coasts.RICH.make().count(11), 0);
        refused(Coasts.RICH, Due.BEYOND, "slip", 13);
        refused(Coasts.RICH, Due.BEYOND, "carry", 13);
    }

    private static void hours() {
        refused(Coasts.ENDED, Due.FULL, "tick", 1);
        refused(Coasts.ENDED, Due.FULL, "tick", 99);
        refused(Coasts.ENDED, Due.BEYOND, "tick", 0);
        refused(Coasts.ENDED, Due.BEYOND, "tick", 100);
        refused(Coasts.RICH, Due.NONE, "book", 1, 0);
        refused(Coasts.RICH, Due.NONE, "book", 80, 5);
        refused(Coasts.RICH, Due.BEYOND, "book", 1, 6);
        refused(Coasts.RICH, Due.BEYOND, "book", 1, -1);
        refused(Coasts.RICH, Due.BEYOND, "book", 81, 0);
        refused(Coasts.NEW, Due.NONE, "book", 0, 0);
    }

    private static void check() {
        refused(Coasts.RICH, Due.NONE, "check", 1, 0);
        refused(Coasts.RICH, Due.NONE, "check", 1, 1);
        refused(Coasts.RICH, Due.NONE, "check", 1, 3);
        refused(Coasts.RICH, Due.BEYOND, "check", 1, 4);
        refused(Coasts.RICH, Due.BEYOND, "check", 81, 3);
        refused(Coasts.RICH, Due.MISSING, "check", 0, 3);
        refused(Coasts.RICH, Due.SIZE, "check", 0, 1);
        refused(Coasts.RICH, Due.SIZE, "check", 0, 2);
        refused(Coasts.CROWDED, Due.NONE, "check", 0, 0);
        refused(Coasts.NEW, Due.NONE, "check", 0, 0);
    }

    private static void sheets() {
        refused(Coasts.RICH, Due.BEYOND, "sheet", 4, 8, -1);
        refused(Coasts.RICH, Due.BEYOND, "sheet", 0, 9, -1);
        refused(Coasts.RICH, Due.BEYOND, "sheet", 0, 9, 21);
        for (int bits : new int[] {0, 8, 32}) {
            refused(Coasts.RICH, Due.SIZE, "sheet", 0, bits, -1);
            refused(Coasts.RICH, Due.SIZE, "sheet", 3, bits, LEAST);
            refused(Coasts.RICH, Due.BEYOND, "sheet", 0, bits, 21);
        }
        refused(Coasts.RICH, Due.BEYOND, "write", 4, 99, 10000);
        refused(Coasts.RICH, Due.MISSING, "write", 3, 99, 10000);
        refused(Coasts.RICH, Due.BEYOND, "write", 0, 6, 0);
        refused(Coasts.RICH, Due.BEYOND, "write", 0, 0, 10000);
        refused(Coasts.RICH, Due.BEYOND, "write", 1, 0, -10000);
        refused(Coasts.RICH, Due.BEYOND, "read", 4, -1);
        refused(Coasts.RICH, Due.MISSING, "read", 3, -1);
        refused(Coasts.RICH, Due.BEYOND, "read", 1, 2);
    }

    private static void copy() {
        refused(Coasts.RICH, Due.BEYOND, "copy", 3, 0, 4, 0, 0);
        refused(Coasts.RICH, Due.BEYOND, "copy", 4, 0, 3, 0, 0);
        refused(Coasts.RICH, Due.MISSING, "copy", 3, -1, 0, 0, 0);
        refused(Coasts.RICH, Due.MISSING, "copy", 1, 0, 3, 0, -1);
        refused(Coasts.RICH, Due.MISSING, "copy", 3, 0, 3, 0, 0);
        refused(Coasts.RICH, Due.KIND, "copy", 0, -1, 1, 0, 0);
        refused(Coasts.RICH, Due.KIND, "copy", 1, 0, 2, 0, 99);
        refused(Coasts.RICH, Due.BEYOND, "copy", 0, 0, 2, 0, 5);
        refused(Coasts.RICH, Due.BEYOND, "copy", 2, 0, 0, 0, 5);
        refused(Coasts.RICH, Due.BEYOND, "copy", 0, 5, 0, 0, 2);
        refused(Coasts.RICH, Due.BEYOND, "copy", 0, 0, 0, 5, 2);
        refused(Coasts.RICH, Due.BEYOND, "copy", 0, 7, 2, 0, 0);
        refused(Coasts.RICH, Due.BEYOND, "copy", 0, 0, 2, 5, 0);
    }

    private static void images() {
        refused(Coasts.NEW, Due.NONE, "undo");
        refused(Coasts.ENDED, Due.NONE, "undo");
        refused(Coasts.RICH, Due.BEYOND, "count", 15);
        refused(Coasts.RICH, Due.BEYOND, "status", 7);
        refused(Coasts.RICH, Due.BEYOND, "status", -2);
    }

    /** A FAULT, and what else is below 0 or 0, is counted as no finding. */
    private static void answersThatAreNoFindings() {
        GhostCoast x = Coasts.RICH.make();
        int before = x.status(-1);
        due.is("a tape that ends too early", x.text(0, 80), -1 - 13);
        due.is("the tape stays", x.count(12), 13);
        due.is("stand that isn't new", x.stand(8, false), 0);
        due.is("a unit on no road", x.where(0, 2), -1);
        due.is("a report of no show", x.report(0, 5), -1);
        due.is("a text that is no tape", new GhostCoast().text(0, 80), -1);
        due.is("findings", x.status(-1), before);
    }
}
