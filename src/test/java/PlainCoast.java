import java.math.BigInteger;
import java.util.ArrayList;
import java.util.Arrays;
import java.util.Comparator;
import java.util.List;
import java.util.TreeMap;
import java.util.regex.Matcher;
import java.util.regex.Pattern;

/**
 * The document told once more, as slowly and as plainly as can be, with lists, exceptions, big
 * numbers and a regular expression: RandomRunsTest holds the class against it.
 */
final class PlainCoast {
    static final int BEYOND = 0, FULL = 1, KIND = 2, NONE = 3, STATE = 4, MISSING = 5, SIZE = 6;

    static final class Finding extends RuntimeException {
        private static final long serialVersionUID = 1;
        final int which;
        Finding(int which) { super(null, null, false, false); this.which = which; }
    }

    static final class Road { int a, b, hours; }
    static final class Unit { int cell, strength, road = -1, toGo; }
    static final class Show {
        int number, kind, story, cell, a, b, hands, cost, stood;
        boolean stands, broken;
    }
    static final class Report {
        int number, source, story, got, known, show = -1;
        boolean isFor, struck;
    }
    static final class Flight { int hour, cell, height, late; }
    static final class Text { String words; int from, to; boolean isVoid; }

    /** What an image keeps. */
    static final class Land {
        int[] ground = new int[96];
        int[] place = new int[4];
        List<Road> roads = new ArrayList<>();
        List<Unit> units = new ArrayList<>();
        List<Show> shows = new ArrayList<>();
        List<Report> reports = new ArrayList<>();
        List<Text> texts = new ArrayList<>();
        List<Flight> flights = new ArrayList<>();
        List<Integer> listeners = new ArrayList<>();
        TreeMap<Integer, int[]> book = new TreeMap<>();
        int hour, wind, cloud, pool, coin, fade = 9, troops;
        int[] held = new int[4];

        Land copy() {
            Land l = new Land();
            l.ground = ground.clone();
            l.place = place.clone();
            for (Road r : roads) {
                Road n = new Road(); n.a = r.a; n.b = r.b; n.hours = r.hours; l.roads.add(n);
            }
            for (Unit u : units) {
                Unit n = new Unit(); n.cell = u.cell; n.strength = u.strength; n.road = u.road; n.toGo = u.toGo;
                l.units.add(n);
            }
            for (Show s : shows) {
                Show n = new Show();
                n.number = s.number; n.kind = s.kind; n.story = s.story; n.cell = s.cell; n.a = s.a; n.b = s.b;
                n.hands = s.hands; n.cost = s.cost; n.stood = s.stood; n.stands = s.stands; n.broken = s.broken;
                l.shows.add(n);
            }
            for (Report r : reports) {
                Report n = new Report();
                n.number = r.number; n.source = r.source; n.story = r.story; n.got = r.got; n.known = r.known;
                n.show = r.show; n.isFor = r.isFor; n.struck = r.struck;
                l.reports.add(n);
            }
            for (Text t : texts) {
                Text n = new Text(); n.words = t.words; n.from = t.from; n.to = t.to; n.isVoid = t.isVoid;
                l.texts.add(n);
            }
            for (Flight f : flights) {
                Flight n = new Flight(); n.hour = f.hour; n.cell = f.cell; n.height = f.height; n.late = f.late;
                l.flights.add(n);
            }
            l.listeners.addAll(listeners);
            for (int d : book.keySet()) l.book.put(d, book.get(d).clone());
            l.hour = hour; l.wind = wind; l.cloud = cloud; l.pool = pool; l.coin = coin;
            l.fade = fade; l.troops = troops; l.held = held.clone();
            return l;
        }
    }

    Land now = new Land();
    Land kept = null;
    StringBuilder tape = new StringBuilder();
    Float[][] sheets = new Float[4][];
    int[] bits = new int[4];
    int[] findings = new int[7];

    static void ask(boolean isRight, int finding) { if (!isRight) throw new Finding(finding); }
    static boolean in(int v, int least, int most) { return least <= v && v <= most; }

    /** A call by its place in the document's list, with the arguments that it has there. */
    long call(int act, int[] v) {
        try {
            return act(act, v);
        } catch (Finding f) {
            findings[f.which]++;
            return -1000001 - f.which;
        }
    }

    private long act(int act, int[] v) {
        switch (act) {
            case 0: {
                ask(in(v[0], 0, 95) && in(v[1], 0, 3), BEYOND);
                int was = now.ground[v[0]];
                now.ground[v[0]] = v[1];
                return was;
            }
            case 1: {
                ask(in(v[0], 0, 95) && in(v[1], 0, 95) && v[0] != v[1] && in(v[2], 1, 30), BEYOND);
                ask(now.roads.size() < 40, FULL);
                Road r = new Road(); r.a = v[0]; r.b = v[1]; r.hours = v[2];
                now.roads.add(r);
                return now.roads.size() - 1;
            }
            case 2: {
                ask(in(v[0], 0, 95) && in(v[1], 1, 90), BEYOND);
                ask(now.units.size() < 12, FULL);
                Unit u = new Unit(); u.cell = v[0]; u.strength = v[1];
                now.units.add(u);
                return now.units.size() - 1;
            }
            case 3: {
                ask(in(v[0], 0, now.units.size() - 1) && in(v[1], 0, now.roads.size() - 1), BEYOND);
                Unit u = now.units.get(v[0]);
                Road r = now.roads.get(v[1]);
                ask(u.road == -1, STATE);
                for (Show s : now.shows) ask(!(s.kind == 6 && s.a == v[0] && shown(s)), STATE);
                ask(r.a == u.cell || r.b == u.cell, KIND);
                u.road = v[1];
                u.toGo = r.hours;
                return now.hour + r.hours;
            }
            case 4: {
                ask(in(v[0], 0, now.units.size() - 1) && in(v[1], 0, 3), BEYOND);
                Unit u = now.units.get(v[0]);
                return new int[] {u.cell, u.strength, u.road, u.toGo}[v[1]];
            }
            case 5: return still(v[0], v[1]);
            case 6:
                ask(in(v[0], 0, 9) && in(v[1], 0, 9), BEYOND);
                now.wind = v[0];
                now.cloud = v[1];
                return 1;
            case 7:
                ask(in(v[0], 0, 900) && in(v[1], 0, 9000), BEYOND);
                now.pool = v[0];
                now.coin = v[1];
                return 1;
            case 8: {
                ask(in(v[0], 0, 3) && in(v[1], 0, 95), BEYOND);
                int was = now.place[v[0]];
                now.place[v[0]] = v[1];
                return was;
            }
            case 9: return show(v[0], v[1], v[2]);
            case 10:
                ask(in(v[1], 0, 6), BEYOND);
                ask(isKind(showAt(v[0]).kind, v[1]), KIND);
                return v[0];
            case 11: return of(showAt(v[0]), v[1]);
            case 12: {
                Show s = showAt(v[0]);
                boolean is = v[1] != 0;
                if (s.stands == is) return 0;
                s.stands = is;
                if (is) s.stood = now.hour;
                return 1;
            }
            case 13: {
                Show s = showAt(v[0]);
                ask(in(v[1], 0, 90), BEYOND);
                ask(in(now.pool + s.hands - v[1], 0, 900), SIZE);
                now.pool += s.hands - v[1];
                s.hands = v[1];
                return now.pool;
            }
            case 14: {
                Show s = showAt(v[0]);
                ask(s.broken, STATE);
                ask(s.hands > 0, SIZE);
                s.broken = false;
                return --s.hands;
            }
            default: return actOfEyes(act, v);
        }
    }

    private long actOfEyes(int act, int[] v) {
        switch (act) {
            case 15: {
                ask(v[1] >= 0 && v[1] <= 959 && in(v[0], 0, 1943) && in(v[2], 0, 48), BEYOND);
                ask(v[0] >= now.hour, STATE);
                ask(now.flights.size() < 30, FULL);
                Flight f = new Flight(); f.hour = v[0]; f.cell = v[1] / 10; f.height = v[1] % 10; f.late = v[2];
                now.flights.add(f);
                return now.flights.size() - 1;
            }
            case 16:
                ask(in(v[0], 0, 1943), BEYOND);
                ask(v[0] >= now.hour, STATE);
                ask(now.listeners.size() < 30, FULL);
                now.listeners.add(v[0]);
                return now.listeners.size();
            case 17: {
                Show s = showAt(v[0]);
                ask(s.kind == 4, KIND);
                ask(shown(s), STATE);
                ask(s.b > 0, NONE);
                ask(now.reports.size() < 90, FULL);
                s.b--;
                return report(2, s.story, true, now.hour, now.hour, s);
            }
            case 18:
                ask(in(v[0], 0, 3), BEYOND);
                ask(now.reports.size() < 90, FULL);
                return report(4, v[0], v[1] != 0, now.hour, now.hour, null);
            case 19: return film(v[0], v[1]);
            case 20: {
                ask(in(v[0], 0, now.reports.size() - 1) && in(v[1], 0, 7), BEYOND);
                Report r = now.reports.get(v[0]);
                return new int[] {r.source, r.story, r.isFor ? 1 : 0, r.got, r.known, r.show, r.struck ? 1 : 0,
                    credit(r)}[v[1]];
            }
            case 21: {
                ask(in(v[0], 0, now.reports.size() - 1), BEYOND);
                Report r = now.reports.get(v[0]);
                ask(!r.struck, STATE);
                ask(r.known <= now.hour, NONE);
                int had = credit(r);
                r.struck = true;
                if (r.source == 2) now.shows.get(r.show).a /= 2;
                return had;
            }
            case 22: {
                ask(in(v[0], 1, 30), BEYOND);
                int was = now.fade;
                now.fade = v[0];
                return was;
            }
            case 23:
                ask(in(v[0], 0, 3), BEYOND);
                return weigh(counted(now.hour))[v[0]].longValueExact();
            case 24:
                ask(in(v[0], 0, 3), BEYOND);
                return cleared(weigh(counted(now.hour)), v[0], v[1] != 0);
            case 25:
                ask(in(v[0], 0, 1943), BEYOND);
                return likeliest(weigh(counted(v[0])));
            case 26:
                ask(in(v[0], 0, 1943), BEYOND);
                return counted(v[0]).size();
            case 27: {
                ask(in(v[0], 0, 900), BEYOND);
                int were = now.troops;
                now.troops = v[0];
                return were;
            }
            case 28: return shift();
            case 29:
                ask(in(v[0], 0, 3), BEYOND);
                return now.held[v[0]];
            default: return actOfTexts(act, v);
        }
    }

    private long actOfTexts(int act, int[] v) {
        switch (act) {
            case 30:
                ask(in(v[1], 1, 4), BEYOND);
                ask(tape.length() + v[1] <= 120, FULL);
                for (int i = v[1]; i > 0; i--) tape.append((char) (v[0] >>> 8 * (i - 1) & 255));
                return tape.length();
            case 31: {
                ask(in(v[0], 0, 80) && in(v[1], 0, 80) && v[0] <= v[1], BEYOND);
                ask(now.texts.size() < 8, FULL);
                int fault = fault(tape.toString());
                if (fault >= 0) return -1 - fault;
                Text t = new Text(); t.words = tape.toString(); t.from = v[0]; t.to = v[1];
                now.texts.add(t);
                tape.setLength(0);
                return now.texts.size() - 1;
            }
            case 32: {
                int had = tape.length();
                tape.setLength(0);
                return had;
            }
            case 33: {
                ask(in(v[0], 0, now.texts.size() - 1), BEYOND);
                ask(!now.texts.get(v[0]).isVoid, STATE);
                now.texts.get(v[0]).isVoid = true;
                return 1;
            }
            case 34: return "must".equals(verb(showAt(v[0]))) ? 1 : 0;
            case 35: return "bar".equals(verb(showAt(v[0]))) ? 0 : 1;
            case 36: {
                int clause = clause(showAt(v[0]));
                ask(clause >= 0, NONE);
                return clause;
            }
            case 37: {
                List<int[]> pairs = pairs();
                ask(in(v[1], 0, 2) && in(v[0], 0, pairs.size() - 1), BEYOND);
                return pairs.get(v[0])[v[1]];
            }
            case 38: {
                Show s = showAt(v[0]);
                List<int[]> told = told(now.hour);
                told.add(new int[] {s.story, 0, 4});
                return likeliest(weigh(latest(told)));
            }
            case 39: {
                Show s = showAt(v[0]);
                int set = 0;
                for (Show o : now.shows) if (o != s && o.story == s.story && shown(o)) set |= 1 << o.number;
                return set;
            }
            case 40: return plan(v[0], v[1], v[2], v[3]);
            case 41:
                ask(in(v[0], 0, 3), BEYOND);
                askSet(v[1]);
                ask(Integer.bitCount(v[1]) <= 9, SIZE);
                return cleared(weighWith(v[1]), v[0], v[2] != 0);
            case 42: return last(v[0], v[1]);
            default: return actOfHours(act, v);
        }
    }

    private long actOfHours(int act, int[] v) {
        switch (act) {
            case 43:
                ask(in(v[0], 1, 99), BEYOND);
                ask(now.hour + v[0] <= 1943, FULL);
                for (int i = 0; i < v[0]; i++) closeHour();
                return now.hour;
            case 44:
                ask(in(v[1], 0, 5) && in(v[0], 0, 80), BEYOND);
                ask(now.book.containsKey(v[0]), NONE);
                return now.book.get(v[0])[v[1]];
            case 45: {
                ask(in(v[0], 0, 80) && in(v[1], 0, 3), BEYOND);
                ask(now.book.containsKey(v[0]), NONE);
                ask(sheets[v[1]] != null, MISSING);
                ask(sheets[v[1]].length == 6, SIZE);
                int n = 0;
                while (n < 6 && (read(v[1], n) == 999 || read(v[1], n) == now.book.get(v[0])[n])) n++;
                return n;
            }
            case 46: {
                ask(in(v[0], 0, 1943), BEYOND);
                return now.reports.stream().filter(r -> r.known <= v[0]).count();
            }
            case 47: {
                ask(in(v[0], 0, 3) && (v[1] == 0 || v[1] == 8 || v[1] == 32), BEYOND);
                ask(v[2] >= 0, SIZE);
                ask(v[2] <= 20, BEYOND);
                bits[v[0]] = v[1];
                if (v[1] == 0) {
                    sheets[v[0]] = null;
                    return 0;
                }
                sheets[v[0]] = new Float[v[2]];
                Arrays.fill(sheets[v[0]], 0f);
                return v[2];
            }
            case 48: {
                ask(in(v[0], 0, 3), BEYOND);
                ask(sheets[v[0]] != null, MISSING);
                ask(in(v[1], 0, sheets[v[0]].length - 1) && in(v[2], -9999, 9999), BEYOND);
                float f = bits[v[0]] == 8 ? (byte) v[2] : v[2] == 999 ? Float.NaN : v[2];
                sheets[v[0]][v[1]] = f;
                return 1;
            }
            case 49:
                ask(in(v[0], 0, 3), BEYOND);
                ask(sheets[v[0]] != null, MISSING);
                ask(in(v[1], 0, sheets[v[0]].length - 1), BEYOND);
                return read(v[0], v[1]);
            case 50: {
                ask(in(v[0], 0, 3) && in(v[2], 0, 3), BEYOND);
                ask(sheets[v[0]] != null && sheets[v[2]] != null, MISSING);
                ask(bits[v[0]] == bits[v[2]], KIND);
                ask(v[1] >= 0 && v[3] >= 0 && v[4] >= 0, BEYOND);
                ask((long) v[1] + v[4] <= sheets[v[0]].length && (long) v[3] + v[4] <= sheets[v[2]].length, BEYOND);
                Float[] were = sheets[v[0]].clone();
                for (int i = 0; i < v[4]; i++) sheets[v[2]][v[3] + i] = were[v[1] + i];
                return v[4];
            }
            case 51:
                kept = now.copy();
                return 1;
            case 52:
                ask(kept != null, NONE);
                now = kept.copy();
                return now.hour;
            case 53: {
                int was = kept == null ? 0 : 1;
                kept = null;
                return was;
            }
            case 54: {
                ask(in(v[0], 0, 14), BEYOND);
                int standing = (int) now.shows.stream().filter(s -> s.stands).count();
                return new int[] {now.roads.size(), now.units.size(), now.shows.size(), now.reports.size(),
                    now.texts.size(), now.flights.size(), now.listeners.size(), now.hour, now.pool, now.coin,
                    standing, pairs().size(), tape.length(), now.fade, now.troops}[v[0]];
            }
            case 55:
                ask(in(v[0], -1, 6), BEYOND);
                return v[0] == -1 ? Arrays.stream(findings).sum() : findings[v[0]];
            default: throw new IllegalArgumentException("no such act");
        }
    }

    // ---- shows

    Show showAt(int number) {
        ask(in(number, 0, now.shows.size() - 1), BEYOND);
        return now.shows.get(number);
    }

    static boolean isKind(int kind, int of) {
        int[] above = {-1, 0, 1, 0, 0, 0, 0};
        for (int k = kind; k >= 0; k = above[k]) if (k == of) return true;
        return false;
    }

    private int show(int kind, int at, int numbers) {
        ask(in(kind, 0, 6) && in(at, 0, 399) && numbers >= 0, BEYOND);
        Show s = new Show();
        s.number = now.shows.size();
        s.kind = kind;
        s.story = at / 100;
        s.cell = at % 100;
        s.a = numbers / 100;
        s.b = numbers % 100;
        ask(s.cell <= 95, BEYOND);
        switch (kind) {
            case 0: case 1: case 2: ask(s.a <= 9 && s.b <= 9, BEYOND); break;
            case 3: ask(s.a <= 23 && s.b <= 23 && s.a <= s.b, BEYOND); break;
            case 4: ask(s.a <= 4 && s.b <= 9, BEYOND); break;
            case 5: ask(s.a <= 4, BEYOND); break;
            default: ask(s.a < now.units.size() && s.b <= 9, BEYOND);
        }
        ask(now.shows.size() < 20, FULL);
        now.shows.add(s);
        return s.number;
    }

    static int need(Show s) {
        return s.kind == 1 ? 1 : s.kind == 2 ? 1 + 3 : s.kind == 3 ? 2 : 0;
    }

    static int price(Show s) {
        switch (s.kind) {
            case 0: return 1;
            case 1: return 1 + 1;
            case 2: return 1 + 1 + 3;
            case 3: return s.b - s.a + 1;
            case 4: return 1;
            default: return 0;
        }
    }

    boolean shown(Show s) {
        return s.stands && !s.broken && s.hands >= need(s) && !"bar".equals(verb(s));
    }

    private long of(Show s, int what) {
        ask(in(what, 0, 13), BEYOND);
        if (what == 10) ask(isKind(s.kind, 1) || s.kind == 0, KIND);
        if (what == 11) ask(isKind(s.kind, 1), KIND);
        if (what >= 12) ask(s.kind == 4, KIND);
        return new int[] {s.kind, s.story, s.cell, s.stands ? 1 : 0, s.broken ? 1 : 0, s.hands, need(s), price(s),
            s.cost, shown(s) ? 1 : 0, s.kind == 0 ? 0 : s.a, s.b, s.a, s.b}[what];
    }

    // ---- roads and eyes

    private int still(int unit, int road) {
        ask(in(unit, 0, now.units.size() - 1) && in(road, 0, now.roads.size() - 1), BEYOND);
        Unit u = now.units.get(unit);
        Road r = now.roads.get(road);
        ask(u.road == -1, STATE);
        ask(r.a == u.cell || r.b == u.cell, KIND);
        for (int h = now.hour; h <= now.hour + 200; h++) {
            boolean isMet = false;
            for (int t = h; t < h + r.hours; t++) {
                for (Flight f : now.flights) {
                    if (f.hour == t && f.height <= 5 && (f.cell == r.a || f.cell == r.b)) isMet = true;
                }
            }
            if (!isMet) return h;
        }
        throw new Finding(NONE);
    }

    private int film(int s, int hour) {
        ask(in(s, 0, 3) && in(hour, 0, now.hour), BEYOND);
        ask(sheets[s] != null, MISSING);
        ask(sheets[s].length <= now.shows.size(), BEYOND);
        int n = 0;
        for (int i = 0; i < sheets[s].length; i++) {
            int v = read(s, i);
            ask(v == 0 || v == 1 || v == 2 || v == 999, BEYOND);
            if (v == 1 || v == 2) n++;
        }
        ask(now.reports.size() + n <= 90, FULL);
        for (int i = 0; i < sheets[s].length; i++) {
            int v = read(s, i);
            if (v == 1 || v == 2) report(5, now.shows.get(i).story, v == 1, hour, now.hour, now.shows.get(i));
        }
        return n;
    }

    private int read(int s, int i) {
        float f = sheets[s][i];
        return Float.isNaN(f) ? 999 : (int) f;
    }

    private int report(int source, int story, boolean isFor, int got, int known, Show show) {
        if (now.reports.size() == 90) return -1;
        Report r = new Report();
        r.number = now.reports.size();
        r.source = source; r.story = story; r.isFor = isFor; r.got = got; r.known = known;
        if (show != null) r.show = show.number;
        now.reports.add(r);
        return r.number;
    }

    // ---- the desk; what is told is rows of story, 1 for or 0 against, credit, the latest last

    int credit(Report r) {
        switch (r.source) {
            case 0: case 5: return 2;
            case 1: return 1;
            case 4: return 3;
            default: return now.shows.get(r.show).a;
        }
    }

    private List<int[]> told(int t) {
        List<Report> some = new ArrayList<>();
        for (Report r : now.reports) if (!r.struck && r.known <= t && r.got >= t - 24 * now.fade) some.add(r);
        some.sort(Comparator.<Report>comparingInt(r -> r.got).thenComparingInt(r -> r.number));
        List<int[]> told = new ArrayList<>();
        for (Report r : some) told.add(new int[] {r.story, r.isFor ? 1 : 0, credit(r)});
        return told;
    }

    private static List<int[]> latest(List<int[]> told) {
        return told.subList(Math.max(0, told.size() - 12), told.size());
    }

    private List<int[]> counted(int t) { return latest(told(t)); }

    private static BigInteger[] weigh(List<int[]> told) {
        BigInteger[] w = new BigInteger[4];
        for (int s = 0; s < 4; s++) {
            w[s] = BigInteger.ONE;
            for (int[] r : told) {
                if (r[1] == 1 && r[0] == s) w[s] = w[s].multiply(BigInteger.valueOf(r[2] + 1));
                if (r[1] == 0 && r[0] != s) w[s] = w[s].multiply(BigInteger.valueOf(r[2] + 1));
            }
        }
        return w;
    }

    private static BigInteger sum(BigInteger[] w) { return w[0].add(w[1]).add(w[2]).add(w[3]); }

    private static long cleared(BigInteger[] w, int story, boolean below) {
        BigInteger divisor = w[story].gcd(sum(w));
        return (below ? sum(w) : w[story]).divide(divisor).longValueExact();
    }

    private static int likeliest(BigInteger[] w) {
        int best = 3;
        for (int s = 2; s >= 0; s--) if (w[s].compareTo(w[best]) >= 0) best = s;
        return best;
    }

    private int shift() {
        BigInteger[] w = weigh(counted(now.hour));
        int[] parts = new int[4];
        List<Integer> byRest = new ArrayList<>(List.of(0, 1, 2, 3));
        BigInteger[] rest = new BigInteger[4];
        int left = now.troops;
        for (int s = 0; s < 4; s++) {
            BigInteger[] qr = w[s].multiply(BigInteger.valueOf(now.troops)).divideAndRemainder(sum(w));
            parts[s] = qr[0].intValueExact();
            rest[s] = qr[1];
            left -= parts[s];
        }
        byRest.sort((x, y) -> rest[y].compareTo(rest[x]));
        for (int i = 0; i < left; i++) parts[byRest.get(i)]++;
        int others = 0;
        for (int s = 0; s < 4; s++) if (parts[s] != now.held[s]) others++;
        now.held = parts;
        return others;
    }

    // ---- texts

    private static final String TEST = "!?(?:day|hour|hands|story|cell)[=<>][0-9]{1,4}";
    private static final String CLAUSE = "(?:must|may|bar) (?:show|dummy|camp|net|voice|paper|quiet)"
        + "(?: if " + TEST + "(?:[&|]" + TEST + "){0,3})?";
    private static final Pattern TEXT = Pattern.compile(CLAUSE + "(?:;" + CLAUSE + "){0,5}");

    /** A text begins so, if the pattern fits or only came to the end too early. */
    static int fault(String tape) {
        for (int n = 1; n <= tape.length(); n++) {
            Matcher m = TEXT.matcher(tape.substring(0, n));
            if (!m.matches() && !m.hitEnd()) return n - 1;
        }
        return TEXT.matcher(tape).matches() ? -1 : tape.length();
    }

    private String[] clauses(int text) { return now.texts.get(text).words.split(";"); }

    private int clause(Show s) {
        for (int t = now.texts.size() - 1; t >= 0; t--) {
            Text text = now.texts.get(t);
            if (text.isVoid || !in(now.hour / 24, text.from, text.to)) continue;
            for (int c = 0; c < clauses(t).length; c++) if (isAbout(clauses(t)[c], s)) return 10 * t + c;
        }
        return -1;
    }

    private String verb(Show s) {
        int clause = clause(s);
        return clause < 0 ? "" : clauses(clause / 10)[clause % 10].split(" ")[0];
    }

    private boolean isAbout(String clause, Show s) {
        String[] words = clause.split(" ");
        List<String> kinds = List.of("show", "dummy", "camp", "net", "voice", "paper", "quiet");
        if (!isKind(s.kind, kinds.indexOf(words[1]))) return false;
        if (words.length == 2) return true;
        for (String and : words[3].split("\\|")) {
            boolean isAll = true;
            for (String test : and.split("&")) isAll &= isSo(test, s);
            if (isAll) return true;
        }
        return false;
    }

    private boolean isSo(String test, Show s) {
        if (test.startsWith("!")) return !isSo(test.substring(1), s);
        String[] sides = test.split("[=<>]");
        int value = sides[0].equals("day") ? now.hour / 24 : sides[0].equals("hour") ? now.hour % 24
            : sides[0].equals("hands") ? s.hands : sides[0].equals("story") ? s.story : s.cell;
        int than = Integer.parseInt(sides[1]);
        return test.contains("=") ? value == than : test.contains("<") ? value < than : value > than;
    }

    // ---- agreeing, plans

    private List<int[]> pairs() {
        List<int[]> pairs = new ArrayList<>();
        for (Show x : now.shows) {
            for (Show y : now.shows) {
                if (x.number >= y.number || x.story == y.story || !shown(x) || !shown(y)) continue;
                int eye = -1;
                if (x.kind <= 2 && y.kind <= 2 && x.cell == y.cell) eye = 0;
                if (x.kind == 3 && y.kind == 3) {
                    for (int t = 0; t < 24; t++) if (in(t, x.a, x.b) && in(t, y.a, y.b)) eye = 1;
                }
                if (x.kind == 4 && y.kind == 4) eye = 2;
                if (eye >= 0) pairs.add(new int[] {x.number, y.number, eye});
            }
        }
        return pairs;
    }

    private void askSet(int set) { ask(set >= 0 && set < 1 << now.shows.size(), BEYOND); }

    private static int[] given(Show s) {
        int credit = s.kind <= 2 ? 2 : s.kind == 3 ? 1 : s.kind == 6 ? 0 : s.a;
        return new int[] {s.story, 1, credit};
    }

    private BigInteger[] weighWith(int set) {
        List<int[]> told = told(now.hour);
        for (Show s : now.shows) if ((set >> s.number & 1) == 1) told.add(given(s));
        return weigh(latest(told));
    }

    private int plan(int story, int set, int hands, int coin) {
        ask(in(story, 0, 3), BEYOND);
        askSet(set);
        ask(hands >= 0 && coin >= 0, BEYOND);
        ask(Integer.bitCount(set) <= 9, SIZE);
        int best = 0;
        BigInteger[] bestWeights = weighWith(0);
        for (int sub = 1; sub <= set; sub++) {
            if ((sub & ~set) != 0) continue;
            int needs = 0;
            int prices = 0;
            for (Show s : now.shows) {
                if ((sub >> s.number & 1) == 0) continue;
                needs += need(s);
                prices += price(s);
            }
            if (needs > hands || prices > coin) continue;
            BigInteger[] w = weighWith(sub);
            int more = w[story].multiply(sum(bestWeights)).compareTo(bestWeights[story].multiply(sum(w)));
            if (more > 0 || more == 0 && Integer.bitCount(sub) < Integer.bitCount(best)) {
                best = sub;
                bestWeights = w;
            }
        }
        return best;
    }

    private int last(int story, int set) {
        ask(in(story, 0, 3), BEYOND);
        askSet(set);
        ask(Integer.bitCount(set) <= 9, SIZE);
        for (int d = 1; d <= 30; d++) {
            int t = now.hour + 24 * d;
            List<int[]> told = told(t);
            for (int h = now.hour + 24; h <= t; h += 24) {
                if (h < t - 24 * now.fade) continue;
                for (Show s : now.shows) if ((set >> s.number & 1) == 1 && shown(s)) told.add(given(s));
            }
            if (likeliest(weigh(latest(told))) != story) return d;
        }
        throw new Finding(NONE);
    }

    // ---- hours

    private void closeHour() {
        int h = now.hour;
        for (Show s : now.shows) if (isKind(s.kind, 1) && s.stands && s.b < now.wind) s.broken = true;
        for (Flight f : now.flights) {
            if (f.hour != h || f.height + now.cloud > 9) continue;
            for (Show s : now.shows) {
                if (s.kind > 2 || s.cell != f.cell || !shown(s)) continue;
                report(0, s.story, f.height >= (s.kind == 0 ? 0 : s.a), h, h + f.late, s);
            }
            for (Unit u : now.units) {
                if (u.cell != f.cell || u.road != -1 || now.ground[f.cell] == 1 && f.height > 2) continue;
                for (int s = 0; s < 4; s++) if (now.place[s] == f.cell) report(0, s, true, h, h + f.late, null);
            }
        }
        for (int l : now.listeners) {
            if (l != h) continue;
            for (Show s : now.shows) {
                if (s.kind == 3 && shown(s) && in(h % 24, s.a, s.b)) report(1, s.story, true, h, h, s);
            }
        }
        for (Show s : now.shows) {
            if (s.kind != 5 || !s.stands || h < s.stood + s.b || !shown(s)) continue;
            report(3, s.story, true, h, h, s);
            s.stands = false;
        }
        for (Unit u : now.units) {
            if (u.road == -1 || --u.toGo > 0) continue;
            Road r = now.roads.get(u.road);
            u.cell = u.cell == r.a ? r.b : r.a;
            u.road = -1;
        }
        if (h % 24 == 23) closeDay(h);
        now.hour++;
    }

    private void closeDay(int h) {
        for (Show s : now.shows) {
            if (!s.stands) continue;
            if (price(s) <= now.coin) {
                now.coin -= price(s);
                s.cost += price(s);
            } else {
                s.stands = false;
            }
        }
        int hands = now.shows.stream().mapToInt(s -> s.hands).sum();
        int standing = (int) now.shows.stream().filter(s -> s.stands).count();
        int known = (int) now.reports.stream().filter(r -> r.known <= h).count();
        now.book.put(h / 24, new int[] {now.pool, hands, now.coin, standing, known, likeliest(weigh(counted(h)))});
    }
}
