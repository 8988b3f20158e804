import java.util.Random;

/** Makes up calls, most of them such as a run needs to get somewhere, some of them wrong. */
final class RandomCalls {
    private static final int[] ODD = {-1, -2, 0, 1, 4, 6, 7, 9, 10, 12, 13, 20, 21, 23, 24, 30, 31, 40, 48, 49, 80,
        81, 90, 91, 95, 96, 99, 100, 399, 400, 900, 901, 959, 960, 999, 1943, 1944, 9000, 9001, 9999, 10000, -9999,
        -10000, 1 << 20, Integer.MAX_VALUE, Integer.MIN_VALUE, -1000001};
    private static final String[] KINDS = {"show", "dummy", "camp", "net", "voice", "paper", "quiet"};
    private static final String[] FACTS = {"day", "hour", "hands", "story", "cell"};

    private final Random random;
    private final int cells;
    private final int spread;
    /** Of a run: how many wrong arguments in a thousand. */
    private final int wrong;
    private final int lowest;

    RandomCalls(long seed) {
        random = new Random(seed);
        cells = 1 + random.nextInt(4);
        spread = 1 + random.nextInt(60);
        wrong = random.nextInt(4) == 0 ? 60 : 8;
        lowest = random.nextInt(3) == 0 ? 4 : 0;
    }

    int below(int n) { return random.nextInt(Math.max(1, n)); }
    int between(int least, int most) { return least + below(most - least + 1); }
    boolean oneIn(int n) { return below(n) == 0; }

    private int odd() { return ODD[below(ODD.length)]; }
    private int maybe(int v) { return below(1000) < wrong ? odd() : v; }
    private int cell() { return oneIn(20) ? between(0, 95) : below(cells); }

    private int hour(PlainCoast.Land l) {
        return oneIn(4) ? between(0, 1943) : Math.min(1943, Math.max(0, l.hour + between(-spread, spread)));
    }

    private int show(PlainCoast.Land l) { return below(l.shows.size()); }

    private int showOf(PlainCoast.Land l, int kind) {
        for (int i = 0; i < 8; i++) {
            int n = show(l);
            if (n < l.shows.size() && l.shows.get(n).kind == kind) return n;
        }
        return show(l);
    }

    private int set(PlainCoast.Land l) {
        int all = (1 << l.shows.size()) - 1;
        int set = random.nextInt() & all;
        while (Integer.bitCount(set) > 9 && !oneIn(12)) set &= ~(1 << below(20));
        return set;
    }

    private int numbers(int kind) {
        switch (kind) {
            case 3: {
                int a = between(0, 23);
                return 100 * a + between(a, Math.min(23, a + 6));
            }
            case 4: return 100 * between(0, 4) + between(0, 9);
            case 5: return 100 * between(0, 4) + between(0, oneIn(2) ? 6 : 99);
            case 6: return 100 * below(4) + between(0, 9);
            default: return 100 * between(0, 9) + between(0, 9);
        }
    }

    String text() {
        StringBuilder words = new StringBuilder();
        int clauses = oneIn(8) ? between(5, 7) : between(1, 2);
        for (int c = 0; c < clauses; c++) {
            if (c > 0) words.append(';');
            words.append(new String[] {"must", "may", "bar", "bar"}[below(4)]).append(' ');
            words.append(KINDS[oneIn(3) ? 0 : below(7)]);
            if (oneIn(3)) continue;
            words.append(" if ");
            int tests = oneIn(6) ? between(4, 5) : between(1, 2);
            for (int t = 0; t < tests; t++) {
                if (t > 0) words.append(oneIn(2) ? '&' : '|');
                if (oneIn(3)) words.append('!');
                int fact = below(5);
                words.append(FACTS[fact]).append("=<>".charAt(below(3)));
                int[] most = {6, 23, 5, 3, cells};
                words.append(oneIn(12) ? between(0, 12000) : between(0, most[fact]));
            }
        }
        if (oneIn(5)) words.setLength(below(words.length() + 1));
        if (words.length() > 0 && oneIn(5)) {
            int at = below(words.length());
            words.setCharAt(at, " ;&|!=<>0amdhscy\u00e9".charAt(below(17)));
        }
        if (oneIn(12)) words.append(" ;&|!=<>0a".charAt(below(10)));
        if (words.length() > 120) words.setLength(120);
        return words.toString();
    }

    int[] arguments(String name, PlainCoast.Land l) {
        int[] v = likely(name, l);
        for (int i = 0; i < v.length; i++) v[i] = maybe(v[i]);
        return v;
    }

    private int[] likely(String name, PlainCoast.Land l) {
        switch (name) {
            case "cell": return new int[] {cell(), below(4)};
            case "road": return new int[] {cell(), cell(), oneIn(5) ? 30 : between(1, oneIn(2) ? 4 : 30)};
            case "unit": return new int[] {cell(), between(1, 90)};
            case "move": case "still": return new int[] {below(l.units.size()), below(l.roads.size())};
            case "where": return new int[] {below(l.units.size()), below(4)};
            case "weather": return new int[] {oneIn(2) ? 0 : between(0, 9), oneIn(2) ? 0 : between(0, 9)};
            case "purse": return new int[] {between(0, oneIn(3) ? 10 : 900), between(0, oneIn(2) ? 60 : 9000)};
            case "story": return new int[] {below(4), cell()};
            case "show": {
                int kind = below(7);
                return new int[] {kind, 100 * below(4) + cell(), numbers(kind)};
            }
            case "as": return new int[] {show(l), below(7)};
            case "of": return new int[] {show(l), below(14)};
            case "stand": return new int[] {show(l), oneIn(5) ? 0 : 1};
            case "hands": return new int[] {show(l), between(0, oneIn(9) ? 90 : 6)};
            case "flight": return new int[] {hour(l), 10 * cell() + Math.max(0, below(10) - lowest),
                between(0, oneIn(2) ? 3 : 48)};
            case "listen": case "likeliest": case "counted": case "known": return new int[] {hour(l)};
            case "tell": return new int[] {showOf(l, 4)};
            case "prisoner": return new int[] {below(4), below(2)};
            case "film": return new int[] {below(4), between(Math.max(0, l.hour - spread), l.hour)};
            case "report": return new int[] {below(l.reports.size()), below(8)};
            case "strike": return new int[] {below(l.reports.size())};
            case "fade": return new int[] {between(1, oneIn(2) ? 3 : 30)};
            case "likely": return new int[] {below(4), below(2)};
            case "troops": return new int[] {between(0, 900)};
            case "weight": case "held": return new int[] {below(4)};
            case "feed": return new int[] {random.nextInt(), between(1, 4)};
            case "text": {
                int from = oneIn(3) ? between(0, 80) : Math.max(0, l.hour / 24 - below(3));
                return new int[] {from, Math.min(80, from + below(oneIn(3) ? 80 : 9))};
            }
            case "drop": return new int[] {below(l.texts.size())};
            case "mend": case "must": case "may": case "why": case "slip": case "carry": return new int[] {show(l)};
            case "agree": return new int[] {below(6), below(3)};
            case "plan": return new int[] {below(4), set(l), between(0, 30), between(0, 60)};
            case "judge": return new int[] {below(4), set(l), below(2)};
            case "last": return new int[] {below(4), set(l)};
            case "tick": return new int[] {between(1, oneIn(6) ? 99 : Math.min(99, spread))};
            case "book": return new int[] {below(1 + l.hour / 24), below(6)};
            case "check": return new int[] {below(1 + l.hour / 24), below(4)};
            case "sheet": return new int[] {below(4), new int[] {0, 8, 8, 32, 32, 32}[below(6)],
                oneIn(3) ? 6 : oneIn(2) ? l.shows.size() : between(0, 20)};
            case "write": return new int[] {below(4), below(6),
                oneIn(5) ? between(-9999, 9999) : oneIn(4) ? 999 : between(0, 2)};
            case "read": return new int[] {below(4), below(7)};
            case "copy": return new int[] {below(4), below(5), below(4), below(5), below(7)};
            case "count": return new int[] {below(15)};
            case "status": return new int[] {between(-1, 6)};
            default: return new int[0];
        }
    }
}
