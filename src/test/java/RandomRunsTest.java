import java.util.ArrayList;
import java.util.Arrays;
import java.util.List;

/** Long made-up runs: every answer must be the one that the document told plainly (PlainCoast) gives. */
public final class RandomRunsTest {
    private static final int CALLS = 512;
    private static final String[] SETUP = {"purse", "unit", "road", "story", "show", "show", "show", "hands", "stand",
        "stand", "flight", "listen", "TEXT"};

    /** What a run does more than others, so that each corner is come to by some. */
    private static final String[][] THEMES = {{},
        {"prisoner", "prisoner", "film", "sheet", "write", "write", "tell", "tick", "likely", "slip", "judge"},
        {"tick", "tick", "book", "check", "stand", "purse", "sheet", "write"},
        {"TEXT", "TEXT", "TEXT", "why", "must", "may", "of", "drop", "hands", "tick"},
        {"weather", "stand", "tick", "mend", "of", "hands", "flight", "count"},
        {"flight", "flight", "flight", "road", "still", "still", "move", "tick", "where"},
        {"show", "stand", "hands", "agree", "agree", "carry", "count", "stand", "listen", "tick"},
        {"tell", "strike", "film", "fade", "tick", "shift", "held", "last", "plan", "prisoner", "weight"},
        {"sheet", "write", "read", "copy", "check", "film", "tick"}};
    private static final String[] RARE = {"plan", "tear", "undo", "image", "weather", "fade"};

    private static int wrong = 0;
    private static final long[][] seen = new long[Calls.NAMES.length][9];

    private GhostCoast x = new GhostCoast();
    private PlainCoast plain = new PlainCoast();
    private final List<String> told = new ArrayList<>();
    private final RandomCalls calls;
    private final long seed;
    private boolean isWrong = false;

    private RandomRunsTest(long seed) {
        this.seed = seed;
        calls = new RandomCalls(seed);
    }

    private void call(String name, int... v) {
        if (isWrong || told.size() >= CALLS) return;
        int act = Calls.act(name);
        long want = plain.call(act, v);
        long got = Calls.call(x, act, v);
        seen[act][want <= -1000001 ? (int) (-1000001 - want) : want < 0 ? 7 : 8]++;
        told.add(name + Arrays.toString(v) + " = " + got);
        if (got == want) return;
        isWrong = true;
        wrong++;
        System.out.println("seed " + seed + ": call " + told.size() + ", " + name + Arrays.toString(v) + " answered "
            + got + ", due is " + want);
        for (String line : told.subList(Math.max(0, told.size() - 30), told.size())) System.out.println("    " + line);
    }

    private void text() {
        String words = calls.text();
        if (calls.oneIn(10)) call("wipe");
        for (int at = 0; at < words.length(); at += 4) {
            int n = Math.min(4, words.length() - at);
            int bytes = 0;
            for (int i = 0; i < n; i++) bytes = bytes << 8 | words.charAt(at + i);
            call("feed", bytes, n);
        }
        call("text", calls.arguments("text", plain.now));
        if (plain.tape.length() > 0) call("wipe");
    }

    private void run() {
        String[] theme = THEMES[calls.below(THEMES.length)];
        boolean isGoingBack = calls.oneIn(3);
        int setup = calls.below(120);
        int odds = 1 + calls.below(20);
        while (told.size() < CALLS && !isWrong) {
            String[] names = told.size() < setup || calls.oneIn(odds) ? SETUP
                : theme.length > 0 && calls.oneIn(2) ? theme : Calls.NAMES;
            String name = names[calls.below(names.length)];
            if (name.equals("TEXT") || name.equals("text") && !calls.oneIn(4)) {
                if (names == theme || calls.oneIn(5)) text();
            } else if (names != Calls.NAMES || isGoingBack || !List.of(RARE).contains(name) || calls.oneIn(12)) {
                call(name, calls.arguments(name, plain.now));
            }
        }
    }

    public static void main(String[] args) {
        long first = args.length > 0 ? Long.parseLong(args[0]) : 1;
        long runs = args.length > 1 ? Long.parseLong(args[1]) : 1500;
        for (long seed = first; seed < first + runs && wrong < 5; seed++) new RandomRunsTest(seed).run();
        if (args.length > 2) {
            for (int i = 0; i < seen.length; i++) System.out.println(Calls.NAMES[i] + " " + Arrays.toString(seen[i]));
        }
        System.out.println(wrong == 0 ? "all answers are as due" : wrong + " runs went wrong");
        if (wrong != 0) System.exit(1);
    }
}
