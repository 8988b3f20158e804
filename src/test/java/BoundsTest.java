import java.util.Arrays;
import java.util.List;

/**
 * Of each argument that is a number: the least and the greatest that are taken, the first below and the first
 * above that are refused, and the least and the greatest int; a refused call changes nothing but status().
 */
public final class BoundsTest {
    private static final Due due = new Due();

    private BoundsTest() {
    }

    public static void main(String[] args) {
        coast();
        shows();
        numbersOfShows();
        eyes();
        desk();
        texts();
        plans();
        hours();
        sheets();
        placesOfCopies();
        bitsOfSheets();
        images();
        due.end();
    }

    /** Numbers from least to most are taken as an argument, others are BEYOND. */
    private static void range(Coasts coast, String name, int argument, int least, int most, int... base) {
        range(coast, name, argument, least, most, Due.BEYOND, base);
    }

    /** As range(), but with another finding for what is below. */
    private static void range(Coasts coast, String name, int argument, int least, int most, long below, int... base) {
        taken(coast, name, argument, least, base);
        taken(coast, name, argument, most, base);
        if (least > Integer.MIN_VALUE) {
            refused(coast, below, name, with(base, argument, least - 1));
            refused(coast, below, name, with(base, argument, Integer.MIN_VALUE));
        }
        if (most < Integer.MAX_VALUE) {
            refused(coast, Due.BEYOND, name, with(base, argument, most + 1));
            refused(coast, Due.BEYOND, name, with(base, argument, Integer.MAX_VALUE));
        }
    }

    private static int[] with(int[] base, int argument, int value) {
        int[] v = base.clone();
        v[argument] = value;
        return v;
    }

    private static void taken(Coasts coast, String name, int argument, int value, int[] base) {
        GhostCoast x = coast.make();
        int[] v = with(base, argument, value);
        long before = x.status(-1);
        long answer = Calls.call(x, Calls.act(name), v);
        String told = coast + ": " + name + Arrays.toString(v);
        if (answer < -1000000) due.is(told + " is taken, so a finding", answer, 0);
        due.is(told + ": findings", x.status(-1), before);
    }

    /** A call answers a finding, which is counted once, and all else stays as it was. */
    static void refused(Due due, Coasts coast, long finding, String name, int... v) {
        String told = coast + ": " + name + Arrays.toString(v);
        GhostCoast first = coast.make();
        int[] counts = new int[7];
        for (int which = 0; which < 7; which++) counts[which] = first.status(which);
        due.is(told, Calls.call(first, Calls.act(name), v), finding);
        counts[(int) (Due.BEYOND - finding)]++;
        for (int which = 0; which < 7; which++) due.is(told + ": status " + which, first.status(which), counts[which]);
        for (int part = 0; part < Whole.PARTS; part++) {
            GhostCoast x = coast.make();
            Calls.call(x, Calls.act(name), v);
            List<Long> are = Whole.of(x, part);
            List<Long> were = Whole.ofNew(coast, part);
            for (int i = 0; i < were.size(); i++) {
                due.is(told + ": answer " + i + " of part " + part, are.get(i), were.get(i));
            }
        }
    }

    private static void refused(Coasts coast, long finding, String name, int... v) {
        refused(due, coast, finding, name, v);
    }

    private static void coast() {
        range(Coasts.PLAIN, "cell", 0, 0, 95, 0, 1);
        range(Coasts.PLAIN, "cell", 1, 0, 3, 7, 0);
        range(Coasts.PLAIN, "road", 0, 0, 95, 0, 50, 3);
        range(Coasts.PLAIN, "road", 1, 0, 95, 50, 0, 3);
        range(Coasts.PLAIN, "road", 2, 1, 30, 50, 51, 0);
        range(Coasts.PLAIN, "unit", 0, 0, 95, 0, 5);
        range(Coasts.PLAIN, "unit", 1, 1, 90, 5, 0);
        range(Coasts.PLAIN, "move", 0, 0, 2, 0, 0);
        range(Coasts.PLAIN, "move", 1, 0, 2, 0, 0);
        range(Coasts.PLAIN, "where", 0, 0, 2, 0, 0);
        range(Coasts.PLAIN, "where", 1, 0, 3, 0, 0);
        range(Coasts.PLAIN, "still", 0, 0, 2, 0, 0);
        range(Coasts.PLAIN, "still", 1, 0, 2, 0, 0);
        range(Coasts.PLAIN, "weather", 0, 0, 9, 0, 0);
        range(Coasts.PLAIN, "weather", 1, 0, 9, 0, 0);
        range(Coasts.PLAIN, "purse", 0, 0, 900, 0, 7);
        range(Coasts.PLAIN, "purse", 1, 0, 9000, 7, 0);
        range(Coasts.PLAIN, "story", 0, 0, 3, 0, 8);
        range(Coasts.PLAIN, "story", 1, 0, 95, 2, 0);
        refused(Coasts.NEW, Due.BEYOND, "move", 0, 0);
        refused(Coasts.NEW, Due.BEYOND, "where", 0, 0);
        refused(Coasts.NEW, Due.BEYOND, "still", 0, 0);
    }

    private static void shows() {
        range(Coasts.PLAIN, "show", 0, 0, 6, 0, 0, 0);
        for (int story = 0; story < 4; story++) range(Coasts.PLAIN, "show", 1, 100 * story, 100 * story + 95, 0, 0, 0);
        refused(Coasts.PLAIN, Due.BEYOND, "show", 0, 400, 0);
        refused(Coasts.PLAIN, Due.BEYOND, "show", 0, -100, 0);
        range(Coasts.PLAIN, "as", 0, 0, 6, 0, 0);
        range(Coasts.PLAIN, "as", 1, 0, 6, 6, 0);
        range(Coasts.PLAIN, "of", 0, 0, 6, 0, 0);
        range(Coasts.PLAIN, "of", 1, 0, 13, 3, 12);
        taken(Coasts.PLAIN, "of", 1, 10, new int[] {0, 0});
        taken(Coasts.PLAIN, "of", 1, 11, new int[] {0, 0});
        for (int is = 0; is < 2; is++) range(Coasts.PLAIN, "stand", 0, 0, 6, 0, is);
        range(Coasts.PLAIN, "hands", 0, 0, 6, 0, 5);
        range(Coasts.PLAIN, "hands", 1, 0, 90, 0, 0);
        taken(Coasts.PLAIN, "mend", 0, 0, new int[] {0});
        taken(Coasts.PLAIN, "mend", 0, 2, new int[] {0});
        refused(Coasts.PLAIN, Due.BEYOND, "mend", -1);
        refused(Coasts.PLAIN, Due.BEYOND, "mend", 7);
        for (String name : new String[] {"as", "of", "stand", "hands"}) refused(Coasts.NEW, Due.BEYOND, name, 0, 0);
        refused(Coasts.NEW, Due.BEYOND, "mend", 0);
    }

    /** 100 * a + b, by kinds: where b is at its least and greatest, and a is. */
    private static void numbersOfShows() {
        for (int kind = 0; kind <= 2; kind++) {
            for (int a : new int[] {0, 5, 9}) range(Coasts.PLAIN, "show", 2, 100 * a, 100 * a + 9, kind, 0, 0);
            refused(Coasts.PLAIN, Due.BEYOND, "show", kind, 0, 1000);
            refused(Coasts.PLAIN, Due.BEYOND, "show", kind, 0, -100);
        }
        for (int a : new int[] {0, 1, 12, 23}) range(Coasts.PLAIN, "show", 2, 100 * a + a, 100 * a + 23, 3, 0, 0);
        refused(Coasts.PLAIN, Due.BEYOND, "show", 3, 0, 2424);
        refused(Coasts.PLAIN, Due.BEYOND, "show", 3, 0, 2425);
        for (int a = 0; a <= 4; a++) range(Coasts.PLAIN, "show", 2, 100 * a, 100 * a + 9, 4, 0, 0);
        refused(Coasts.PLAIN, Due.BEYOND, "show", 4, 0, 500);
        range(Coasts.PLAIN, "show", 2, 0, 499, 5, 0, 0);
        taken(Coasts.PLAIN, "show", 2, 99, new int[] {5, 0, 0});
        taken(Coasts.PLAIN, "show", 2, 400, new int[] {5, 0, 0});
        for (int unit = 0; unit < 3; unit++) range(Coasts.PLAIN, "show", 2, 100 * unit, 100 * unit + 9, 6, 0, 0);
        refused(Coasts.PLAIN, Due.BEYOND, "show", 6, 0, 300);
        refused(Coasts.NEW, Due.BEYOND, "show", 6, 0, 0);
    }

    private static void eyes() {
        range(Coasts.NEW, "flight", 0, 0, 1943, 0, 0, 0);
        range(Coasts.NEW, "flight", 1, 0, 959, 0, 0, 0);
        range(Coasts.NEW, "flight", 2, 0, 48, 0, 0, 0);
        range(Coasts.NEW, "listen", 0, 0, 1943, 0);
        taken(Coasts.ENDED, "flight", 0, 1943, new int[] {0, 0, 0});
        taken(Coasts.ENDED, "listen", 0, 1943, new int[] {0});
        refused(Coasts.ENDED, Due.STATE, "flight", 1942, 0, 0);
        refused(Coasts.ENDED, Due.STATE, "listen", 1942);
        refused(Coasts.ENDED, Due.BEYOND, "flight", 1944, 0, 0);
        refused(Coasts.ENDED, Due.BEYOND, "listen", 1944);
        taken(Coasts.PLAIN, "tell", 0, 3, new int[] {0});
        taken(Coasts.PLAIN, "tell", 0, 5, new int[] {0});
        refused(Coasts.PLAIN, Due.BEYOND, "tell", -1);
        refused(Coasts.PLAIN, Due.BEYOND, "tell", 7);
        refused(Coasts.NEW, Due.BEYOND, "tell", 0);
        for (int is = 0; is < 2; is++) range(Coasts.PLAIN, "prisoner", 0, 0, 3, 0, is);
        range(Coasts.PLAIN, "film", 0, 0, 3, 0, 0);
        range(Coasts.PLAIN, "film", 1, 0, 25, 0, 0);
    }

    private static void desk() {
        range(Coasts.PLAIN, "report", 0, 0, 2, 0, 0);
        range(Coasts.PLAIN, "report", 1, 0, 7, 0, 0);
        range(Coasts.PLAIN, "strike", 0, 0, 2, 0);
        refused(Coasts.NEW, Due.BEYOND, "report", 0, 0);
        refused(Coasts.NEW, Due.BEYOND, "strike", 0);
        range(Coasts.PLAIN, "fade", 0, 1, 30, 0);
        range(Coasts.PLAIN, "weight", 0, 0, 3, 0);
        for (int is = 0; is < 2; is++) range(Coasts.PLAIN, "likely", 0, 0, 3, 0, is);
        range(Coasts.PLAIN, "likeliest", 0, 0, 1943, 0);
        range(Coasts.PLAIN, "counted", 0, 0, 1943, 0);
        range(Coasts.PLAIN, "troops", 0, 0, 900, 0);
        range(Coasts.PLAIN, "held", 0, 0, 3, 0);
    }

    private static void texts() {
        range(Coasts.PLAIN, "feed", 1, 1, 4, 0, 0);
        taken(Coasts.PLAIN, "feed", 0, Integer.MIN_VALUE, new int[] {0, 4});
        taken(Coasts.PLAIN, "feed", 0, Integer.MAX_VALUE, new int[] {0, 4});
        range(Coasts.ENDED, "text", 0, 0, 80, 0, 80);
        range(Coasts.ENDED, "text", 1, 0, 80, 0, 0);
        taken(Coasts.ENDED, "text", 0, 40, new int[] {0, 40});
        refused(Coasts.ENDED, Due.BEYOND, "text", 41, 40);
        range(Coasts.PLAIN, "drop", 0, 0, 2, 0);
        refused(Coasts.NEW, Due.BEYOND, "drop", 0);
        for (String name : new String[] {"must", "may", "why"}) {
            range(Coasts.PLAIN, name, 0, 0, 6, 0);
            refused(Coasts.NEW, Due.BEYOND, name, 0);
        }
    }

    private static void plans() {
        // The voices 3 to 5 tell unlike stories: three PAIRS.
        range(Coasts.PLAIN, "agree", 0, 0, 2, 0, 0);
        range(Coasts.PLAIN, "agree", 1, 0, 2, 0, 0);
        refused(Coasts.NEW, Due.BEYOND, "agree", 0, 0);
        range(Coasts.PLAIN, "slip", 0, 0, 6, 0);
        range(Coasts.PLAIN, "carry", 0, 0, 6, 0);
        refused(Coasts.NEW, Due.BEYOND, "slip", 0);
        refused(Coasts.NEW, Due.BEYOND, "carry", 0);
        range(Coasts.PLAIN, "plan", 0, 0, 3, 0, 0, 0, 0);
        range(Coasts.PLAIN, "plan", 1, 0, 127, 0, 0, 0, 0);
        range(Coasts.PLAIN, "plan", 2, 0, Integer.MAX_VALUE, 0, 7, 0, 9);
        range(Coasts.PLAIN, "plan", 3, 0, Integer.MAX_VALUE, 0, 7, 9, 0);
        for (int is = 0; is < 2; is++) {
            range(Coasts.PLAIN, "judge", 0, 0, 3, 0, 0, is);
            range(Coasts.PLAIN, "judge", 1, 0, 127, 0, 0, is);
        }
        range(Coasts.PLAIN, "last", 0, 0, 3, 0, 0);
        range(Coasts.PLAIN, "last", 1, 0, 127, 1, 0);
        for (String name : new String[] {"judge", "last"}) {
            int[] v = name.equals("judge") ? new int[] {0, 1, 0} : new int[] {0, 1};
            refused(Coasts.NEW, Due.BEYOND, name, v);
        }
        refused(Coasts.NEW, Due.BEYOND, "plan", 0, 1, 0, 0);
    }

    private static void hours() {
        range(Coasts.PLAIN, "tick", 0, 1, 99, 0);
        taken(Coasts.ENDED, "book", 0, 0, new int[] {0, 0});
        taken(Coasts.ENDED, "book", 0, 79, new int[] {0, 0});
        refused(Coasts.ENDED, Due.BEYOND, "book", -1, 0);
        refused(Coasts.ENDED, Due.NONE, "book", 80, 0);
        refused(Coasts.ENDED, Due.BEYOND, "book", 81, 0);
        range(Coasts.ENDED, "book", 1, 0, 5, 79, 0);
        taken(Coasts.ENDED, "check", 0, 0, new int[] {0, 0});
        taken(Coasts.ENDED, "check", 0, 79, new int[] {0, 0});
        refused(Coasts.ENDED, Due.BEYOND, "check", -1, 0);
        refused(Coasts.ENDED, Due.NONE, "check", 80, 0);
        refused(Coasts.ENDED, Due.BEYOND, "check", 81, 0);
        range(Coasts.PLAIN, "check", 1, 0, 3, 0, 0);
        range(Coasts.PLAIN, "known", 0, 0, 1943, 0);
    }

    private static void sheets() {
        for (int bits : new int[] {0, 8, 32}) {
            range(Coasts.PLAIN, "sheet", 0, 0, 3, 0, bits, 4);
            range(Coasts.PLAIN, "sheet", 2, 0, 20, Due.SIZE, 2, bits, 0);
        }
        range(Coasts.PLAIN, "write", 0, 0, 3, 0, 0, 1);
        range(Coasts.PLAIN, "write", 1, 0, 5, 1, 0, 1);
        range(Coasts.PLAIN, "write", 2, -9999, 9999, 1, 1, 0);
        range(Coasts.RICH, "write", 2, -9999, 9999, 1, 1, 0);
        range(Coasts.PLAIN, "read", 0, 0, 3, 0, 0);
        range(Coasts.PLAIN, "read", 1, 0, 5, 1, 0);
        range(Coasts.CROWDED, "write", 1, 0, 19, 1, 0, 1);
        range(Coasts.CROWDED, "read", 1, 0, 19, 1, 0);
    }

    /** Six numbers each: places and lengths that fit just so. */
    private static void placesOfCopies() {
        range(Coasts.PLAIN, "copy", 0, 0, 3, 0, 0, 1, 0, 6);
        range(Coasts.PLAIN, "copy", 2, 0, 3, 0, 0, 1, 0, 6);
        for (int n = 0; n <= 6; n++) {
            range(Coasts.PLAIN, "copy", 1, 0, 6 - n, 0, 0, 1, 0, n);
            range(Coasts.PLAIN, "copy", 3, 0, 6 - n, 0, 0, 1, 0, n);
            range(Coasts.PLAIN, "copy", 4, 0, 6 - n, 0, n, 1, 0, 0);
            range(Coasts.PLAIN, "copy", 4, 0, 6 - n, 0, 0, 1, n, 0);
        }
        refused(Coasts.PLAIN, Due.BEYOND, "copy", 0, Integer.MAX_VALUE, 1, Integer.MAX_VALUE, Integer.MAX_VALUE);
        refused(Coasts.PLAIN, Due.BEYOND, "copy", 0, Integer.MIN_VALUE, 1, Integer.MIN_VALUE, Integer.MIN_VALUE);
        refused(Coasts.PLAIN, Due.BEYOND, "copy", 0, Integer.MAX_VALUE, 1, 0, Integer.MIN_VALUE);
    }

    private static void bitsOfSheets() {
        for (int bits : new int[] {-32, -8, -1, 1, 7, 9, 16, 31, 33, 64, Integer.MIN_VALUE, Integer.MAX_VALUE}) {
            refused(Coasts.PLAIN, Due.BEYOND, "sheet", 0, bits, 4);
        }
    }

    private static void images() {
        range(Coasts.PLAIN, "count", 0, 0, 14, 0);
        range(Coasts.PLAIN, "status", 0, -1, 6, 0);
    }
}
