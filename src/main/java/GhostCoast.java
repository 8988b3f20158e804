import java.util.Arrays;

/**
 * A coast with an army that is not there: shows that tell stories, eyes that report them, a desk
 * that weighs the stories. The promises are in the document DOC.md; every act tells its findings
 * in the order in which the document asks them.
 */
public final class GhostCoast {
    private static final int BEYOND = -1000001;
    private static final int FULL = -1000002;
    private static final int KIND = -1000003;
    private static final int NONE = -1000004;
    private static final int STATE = -1000005;
    private static final int MISSING = -1000006;
    private static final int SIZE = -1000007;
    private static final int FINDINGS = 7;

    /** What the parts inside answer where there is nothing; no number of a thing is below 0. */
    private static final int NO = -1;

    private static final int CELLS = 96;
    private static final int GROUNDS = 4;
    private static final int WOOD = 1;
    private static final int ROADS = 40;
    private static final int MOST_ROAD_HOURS = 30;
    private static final int UNITS = 12;
    private static final int MOST_STRENGTH = 90;
    private static final int STORIES = 4;
    private static final int DAY_HOURS = 24;
    private static final int LAST_HOUR = 1943;
    private static final int DAYS = 81;
    private static final int MOST_POOL = 900;
    private static final int MOST_COIN = 9000;

    private static final int SHOWS = 20;
    private static final int SHOW = 0;
    private static final int DUMMY = 1;
    private static final int CAMP = 2;
    private static final int NET = 3;
    private static final int VOICE = 4;
    private static final int PAPER = 5;
    private static final int QUIET = 6;
    private static final int KINDS = 7;
    private static final int[] NEEDS = {0, 1, 4, 2, 0, 0, 0};
    /** Of a NET: 0, for its price is told by its times. */
    private static final int[] PRICES = {1, 2, 5, 0, 1, 0, 0};
    private static final int[] MOST_A = {9, 9, 9, 23, 4, 4, UNITS - 1};
    private static final int[] MOST_B = {9, 9, 9, 23, 9, 99, 9};
    private static final int MOST_HANDS = 90;

    private static final int FLIGHTS = 30;
    private static final int LISTENERS = 30;
    private static final int MOST_LATE = 48;
    private static final int HIGHEST = 9;
    private static final int LOW_HEIGHT = 5;
    private static final int WOOD_HEIGHT = 2;
    private static final int STILL_HOURS = 200;

    private static final int REPORTS = 90;
    private static final int FROM_FLIGHT = 0;
    private static final int FROM_LISTENER = 1;
    private static final int FROM_VOICE = 2;
    private static final int FROM_PAPER = 3;
    private static final int FROM_PRISONER = 4;
    private static final int FROM_FILM = 5;
    private static final int SEEN_CREDIT = 2;
    private static final int HEARD_CREDIT = 1;
    private static final int PRISONER_CREDIT = 3;
    private static final int SLIP_CREDIT = 4;
    private static final int COUNTED = 12;
    private static final int FIRST_FADE = 9;
    private static final int MOST_FADE = 30;
    private static final int MOST_TROOPS = 900;

    private static final int TAPE = 120;
    private static final int TEXTS = 8;
    private static final int CLAUSES = 6;
    private static final int TESTS = 4;
    /** A clause lies in the row 10 * text + clause, which is also how why() tells it. */
    private static final int CLAUSE_ROWS = 10 * TEXTS;
    private static final int DIGITS = 4;
    private static final String VERBS = "must may bar ";
    private static final int MUST = 0;
    private static final int BAR = 2;
    private static final String KIND_WORDS = "show dummy camp net voice paper quiet ";
    private static final String IF_WORD = "if ";
    private static final String FACT_WORDS = "day hour hands story cell ";
    private static final int FACTS = 5;
    private static final String SIGNS = "= < > ";
    private static final int LESS = 1;
    private static final int GREATER = 2;

    private static final int PAIRS = SHOWS * (SHOWS - 1) / 2;
    private static final int BY_FLIGHT = 0;
    private static final int BY_LISTENER = 1;
    private static final int BY_DESK = 2;
    private static final int MOST_PLANNED = 9;
    private static final int LAST_DAYS = 30;
    private static final int MOST_TICKS = 99;

    private static final int BOOK_NUMBERS = 6;
    private static final int SHEETS = 4;
    private static final int SHEET_NUMBERS = 20;
    private static final int BYTE_BITS = 8;
    private static final int FLOAT_BITS = 32;
    private static final int CLOUDED = 999;
    private static final int MOST_WRITTEN = 9999;

    private final World now = new World();
    private final World kept = new World();
    private boolean isKept;
    private final Tape tape = new Tape();
    private final Sheets sheets = new Sheets();
    private final int[] findings = new int[FINDINGS];

    public GhostCoast() {
    }

    // ---- the coast

    public int cell(int cell, int ground) {
        if (!isIn(cell, CELLS) || !isIn(ground, GROUNDS)) return found(BEYOND);
        int was = now.coast.ground[cell];
        now.coast.ground[cell] = ground;
        return was;
    }

    public int road(int a, int b, int hours) {
        if (!isIn(a, CELLS) || !isIn(b, CELLS) || a == b) return found(BEYOND);
        if (!isBetween(hours, 1, MOST_ROAD_HOURS)) return found(BEYOND);
        if (now.coast.roads >= ROADS) return found(FULL);
        return now.coast.addRoad(a, b, hours);
    }

    public int unit(int cell, int strength) {
        if (!isIn(cell, CELLS) || !isBetween(strength, 1, MOST_STRENGTH)) return found(BEYOND);
        if (now.coast.units >= UNITS) return found(FULL);
        return now.coast.addUnit(cell, strength);
    }

    public int move(int unit, int road) {
        Coast coast = now.coast;
        if (!isIn(unit, coast.units) || !isIn(road, coast.roads)) return found(BEYOND);
        if (coast.isOnRoad(unit) || now.isQuiet(unit)) return found(STATE);
        if (!coast.leadsFrom(road, coast.unitCell[unit])) return found(KIND);
        coast.unitRoad[unit] = road;
        coast.unitToGo[unit] = coast.roadHours[road];
        return coast.hour + coast.roadHours[road];
    }

    public int where(int unit, int what) {
        Coast coast = now.coast;
        if (!isIn(unit, coast.units)) return found(BEYOND);
        switch (what) {
            case 0: return coast.unitCell[unit];
            case 1: return coast.unitStrength[unit];
            case 2: return coast.unitRoad[unit];
            case 3: return coast.unitToGo[unit];
            default: return found(BEYOND);
        }
    }

    public int still(int unit, int road) {
        Coast coast = now.coast;
        if (!isIn(unit, coast.units) || !isIn(road, coast.roads)) return found(BEYOND);
        if (coast.isOnRoad(unit)) return found(STATE);
        if (!coast.leadsFrom(road, coast.unitCell[unit])) return found(KIND);
        int hour = now.firstStill(road);
        return hour == NO ? found(NONE) : hour;
    }

    public int weather(int wind, int cloud) {
        if (!isBetween(wind, 0, 9) || !isBetween(cloud, 0, 9)) return found(BEYOND);
        now.coast.wind = wind;
        now.coast.cloud = cloud;
        return 1;
    }

    public int purse(int pool, int coin) {
        if (!isBetween(pool, 0, MOST_POOL) || !isBetween(coin, 0, MOST_COIN)) return found(BEYOND);
        now.coast.pool = pool;
        now.coast.coin = coin;
        return 1;
    }

    public int story(int story, int cell) {
        if (!isIn(story, STORIES) || !isIn(cell, CELLS)) return found(BEYOND);
        int was = now.coast.place[story];
        now.coast.place[story] = cell;
        return was;
    }

    // ---- shows

    public int show(int kind, int at, int numbers) {
        if (!isIn(kind, KINDS) || at < 0 || numbers < 0) return found(BEYOND);
        int story = at / 100;
        int cell = at % 100;
        int a = numbers / 100;
        int b = numbers % 100;
        if (!isIn(story, STORIES) || !isIn(cell, CELLS)) return found(BEYOND);
        if (a > MOST_A[kind] || b > MOST_B[kind]) return found(BEYOND);
        if (kind == NET && a > b) return found(BEYOND);
        if (kind == QUIET && !isIn(a, now.coast.units)) return found(BEYOND);
        if (now.shows.size >= SHOWS) return found(FULL);
        return now.shows.add(kind, story, cell, a, b);
    }

    public int as(int show, int kind) {
        if (!now.shows.has(show) || !isIn(kind, KINDS)) return found(BEYOND);
        if (!isUnder(now.shows.kind[show], kind)) return found(KIND);
        return show;
    }

    public int of(int show, int what) {
        Shows shows = now.shows;
        if (!shows.has(show)) return found(BEYOND);
        int kind = shows.kind[show];
        switch (what) {
            case 0: return kind;
            case 1: return shows.story[show];
            case 2: return shows.cell[show];
            case 3: return shows.stands[show] ? 1 : 0;
            case 4: return shows.isBroken[show] ? 1 : 0;
            case 5: return shows.hands[show];
            case 6: return shows.need(show);
            case 7: return shows.price(show);
            case 8: return shows.cost[show];
            case 9: return now.isShown(show) ? 1 : 0;
            case 10: return kind <= CAMP ? shows.top(show) : found(KIND);
            case 11: return isUnder(kind, DUMMY) ? shows.b[show] : found(KIND);
            case 12: return kind == VOICE ? shows.a[show] : found(KIND);
            case 13: return kind == VOICE ? shows.b[show] : found(KIND);
            default: return found(BEYOND);
        }
    }

    public int stand(int show, boolean is) {
        if (!now.shows.has(show)) return found(BEYOND);
        if (now.shows.stands[show] == is) return 0;
        now.shows.stands[show] = is;
        now.shows.since[show] = now.coast.hour;
        return 1;
    }

    public int hands(int show, int n) {
        if (!now.shows.has(show) || !isBetween(n, 0, MOST_HANDS)) return found(BEYOND);
        int pool = now.coast.pool + now.shows.hands[show] - n;
        if (!isBetween(pool, 0, MOST_POOL)) return found(SIZE);
        now.shows.hands[show] = n;
        now.coast.pool = pool;
        return pool;
    }

    public int mend(int show) {
        Shows shows = now.shows;
        if (!shows.has(show)) return found(BEYOND);
        if (!shows.isBroken[show]) return found(STATE);
        if (shows.hands[show] < 1) return found(SIZE);
        shows.isBroken[show] = false;
        shows.hands[show]--;
        return shows.hands[show];
    }

    // ---- eyes

    public int flight(int hour, int at, int late) {
        if (at < 0 || !isIn(at / 10, CELLS)) return found(BEYOND);
        if (!isBetween(hour, 0, LAST_HOUR) || !isBetween(late, 0, MOST_LATE)) return found(BEYOND);
        if (hour < now.coast.hour) return found(STATE);
        if (now.eyes.flights >= FLIGHTS) return found(FULL);
        return now.eyes.addFlight(hour, at / 10, at % 10, late);
    }

    public int listen(int hour) {
        if (!isBetween(hour, 0, LAST_HOUR)) return found(BEYOND);
        if (hour < now.coast.hour) return found(STATE);
        if (now.eyes.listeners >= LISTENERS) return found(FULL);
        return now.eyes.addListener(hour);
    }

    public int tell(int show) {
        Shows shows = now.shows;
        if (!shows.has(show)) return found(BEYOND);
        if (shows.kind[show] != VOICE) return found(KIND);
        if (!now.isShown(show)) return found(STATE);
        if (shows.b[show] < 1) return found(NONE);
        if (now.desk.room() < 1) return found(FULL);
        shows.b[show]--;
        now.reportShow(FROM_VOICE, show, true, now.coast.hour);
        return now.desk.size - 1;
    }

    public int prisoner(int story, boolean is) {
        if (!isIn(story, STORIES)) return found(BEYOND);
        if (now.desk.room() < 1) return found(FULL);
        now.reportStory(FROM_PRISONER, story, is, now.coast.hour);
        return now.desk.size - 1;
    }

    public int film(int s, int hour) {
        if (!isIn(s, SHEETS) || !isBetween(hour, 0, now.coast.hour)) return found(BEYOND);
        if (sheets.isMissing(s)) return found(MISSING);
        int n = sheets.length[s];
        if (n > now.shows.size) return found(BEYOND);
        int coming = 0;
        for (int i = 0; i < n; i++) {
            int v = sheets.numbers[s][i];
            if (!isBetween(v, 0, 2) && v != CLOUDED) return found(BEYOND);
            if (v == 1 || v == 2) coming++;
        }
        if (coming > now.desk.room()) return found(FULL);
        for (int i = 0; i < n; i++) {
            int v = sheets.numbers[s][i];
            if (v == 1 || v == 2) now.develop(i, v == 1, hour);
        }
        return coming;
    }

    // ---- the desk

    public int report(int report, int what) {
        Desk desk = now.desk;
        if (!isIn(report, desk.size)) return found(BEYOND);
        switch (what) {
            case 0: return desk.source[report];
            case 1: return desk.story[report];
            case 2: return desk.isFor[report] ? 1 : 0;
            case 3: return desk.got[report];
            case 4: return desk.known[report];
            case 5: return desk.show[report];
            case 6: return desk.isStruck[report] ? 1 : 0;
            case 7: return desk.credit(report, now.shows);
            default: return found(BEYOND);
        }
    }

    public int strike(int report) {
        Desk desk = now.desk;
        if (!isIn(report, desk.size)) return found(BEYOND);
        if (desk.isStruck[report]) return found(STATE);
        if (desk.known[report] > now.coast.hour) return found(NONE);
        int had = desk.credit(report, now.shows);
        desk.isStruck[report] = true;
        int show = desk.show[report];
        if (desk.source[report] == FROM_VOICE && now.shows.has(show)) now.shows.a[show] /= 2;
        return had;
    }

    public int fade(int n) {
        if (!isBetween(n, 1, MOST_FADE)) return found(BEYOND);
        int was = now.desk.fade;
        now.desk.fade = n;
        return was;
    }

    public long weight(int story) {
        if (!isIn(story, STORIES)) return found(BEYOND);
        return now.scalesAt(now.coast.hour).weights[story];
    }

    public long likely(int story, boolean below) {
        if (!isIn(story, STORIES)) return found(BEYOND);
        return now.scalesAt(now.coast.hour).cleared(story, below);
    }

    public int likeliest(int hour) {
        if (!isBetween(hour, 0, LAST_HOUR)) return found(BEYOND);
        return now.scalesAt(hour).heaviest();
    }

    public int counted(int hour) {
        if (!isBetween(hour, 0, LAST_HOUR)) return found(BEYOND);
        return now.scalesAt(hour).size;
    }

    public int troops(int n) {
        if (!isBetween(n, 0, MOST_TROOPS)) return found(BEYOND);
        int were = now.desk.troops;
        now.desk.troops = n;
        return were;
    }

    public int shift() {
        return now.desk.part(now.scalesAt(now.coast.hour));
    }

    public int held(int story) {
        if (!isIn(story, STORIES)) return found(BEYOND);
        return now.desk.parts[story];
    }

    // ---- texts

    public int feed(int bytes, int n) {
        if (!isBetween(n, 1, 4)) return found(BEYOND);
        if (tape.length + n > TAPE) return found(FULL);
        for (int i = n - 1; i >= 0; i--) tape.add(bytes >> (8 * i) & 255);
        return tape.length;
    }

    public int text(int from, int to) {
        if (!isIn(from, DAYS) || !isIn(to, DAYS) || from > to) return found(BEYOND);
        if (now.texts.size >= TEXTS) return found(FULL);
        int fault = tape.faultOf(now.texts);
        if (fault != NO) return -1 - fault;
        tape.length = 0;
        return now.texts.add(from, to);
    }

    public int wipe() {
        int had = tape.length;
        tape.length = 0;
        return had;
    }

    public int drop(int text) {
        if (!isIn(text, now.texts.size)) return found(BEYOND);
        if (now.texts.isVoid[text]) return found(STATE);
        now.texts.isVoid[text] = true;
        return 1;
    }

    public int must(int show) {
        if (!now.shows.has(show)) return found(BEYOND);
        return now.texts.says(now.clauseOf(show), MUST) ? 1 : 0;
    }

    public int may(int show) {
        if (!now.shows.has(show)) return found(BEYOND);
        return now.texts.says(now.clauseOf(show), BAR) ? 0 : 1;
    }

    public int why(int show) {
        if (!now.shows.has(show)) return found(BEYOND);
        int clause = now.clauseOf(show);
        return clause == NO ? found(NONE) : clause;
    }

    // ---- agreeing, slips, plans

    public int agree(int i, int what) {
        int pairs = now.collectPairs();
        if (!isIn(i, pairs)) return found(BEYOND);
        int pair = now.pairs[i];
        switch (what) {
            case 0: return World.lesserOf(pair);
            case 1: return World.greaterOf(pair);
            case 2: return World.eyeOf(pair);
            default: return found(BEYOND);
        }
    }

    public int slip(int show) {
        if (!now.shows.has(show)) return found(BEYOND);
        Scales scales = now.scalesAt(now.coast.hour);
        scales.leaveRoomFor(1);
        scales.put(now.shows.story[show], false, SLIP_CREDIT);
        return scales.heaviest();
    }

    public int carry(int show) {
        if (!now.shows.has(show)) return found(BEYOND);
        return now.carriersOf(show);
    }

    public int plan(int story, int set, int hands, int coin) {
        if (!isIn(story, STORIES) || !now.shows.hasAll(set)) return found(BEYOND);
        if (hands < 0 || coin < 0) return found(BEYOND);
        if (Integer.bitCount(set) > MOST_PLANNED) return found(SIZE);
        return now.planFor(story, set, hands, coin);
    }

    public long judge(int story, int set, boolean below) {
        if (!isIn(story, STORIES) || !now.shows.hasAll(set)) return found(BEYOND);
        if (Integer.bitCount(set) > MOST_PLANNED) return found(SIZE);
        Scales scales = now.scalesAt(now.coast.hour);
        scales.putGiven(set, now.shows);
        return scales.cleared(story, below);
    }

    public int last(int story, int set) {
        if (!isIn(story, STORIES) || !now.shows.hasAll(set)) return found(BEYOND);
        if (Integer.bitCount(set) > MOST_PLANNED) return found(SIZE);
        int day = now.firstDayWithout(story, set & now.shownSet());
        return day == NO ? found(NONE) : day;
    }

    // ---- hours, the book

    public int tick(int n) {
        if (!isBetween(n, 1, MOST_TICKS)) return found(BEYOND);
        if (now.coast.hour + n > LAST_HOUR) return found(FULL);
        for (int i = 0; i < n; i++) now.closeHour();
        return now.coast.hour;
    }

    public int book(int day, int what) {
        if (!isIn(what, BOOK_NUMBERS) || !isIn(day, DAYS)) return found(BEYOND);
        if (!now.isClosed(day)) return found(NONE);
        return now.book[BOOK_NUMBERS * day + what];
    }

    public int check(int day, int s) {
        if (!isIn(day, DAYS) || !isIn(s, SHEETS)) return found(BEYOND);
        if (!now.isClosed(day)) return found(NONE);
        if (sheets.isMissing(s)) return found(MISSING);
        if (sheets.length[s] != BOOK_NUMBERS) return found(SIZE);
        for (int i = 0; i < BOOK_NUMBERS; i++) {
            int v = sheets.numbers[s][i];
            if (v != CLOUDED && v != now.book[BOOK_NUMBERS * day + i]) return i;
        }
        return BOOK_NUMBERS;
    }

    public int known(int hour) {
        if (!isBetween(hour, 0, LAST_HOUR)) return found(BEYOND);
        return now.desk.knownBy(hour);
    }

    // ---- sheets

    public int sheet(int s, int bits, int n) {
        if (!isIn(s, SHEETS)) return found(BEYOND);
        if (bits != 0 && bits != BYTE_BITS && bits != FLOAT_BITS) return found(BEYOND);
        if (n < 0) return found(SIZE);
        if (n > SHEET_NUMBERS) return found(BEYOND);
        sheets.bits[s] = bits;
        sheets.length[s] = bits == 0 ? 0 : n;
        Arrays.fill(sheets.numbers[s], 0);
        return sheets.length[s];
    }

    public int write(int s, int i, int v) {
        if (!isIn(s, SHEETS)) return found(BEYOND);
        if (sheets.isMissing(s)) return found(MISSING);
        if (!isIn(i, sheets.length[s])) return found(BEYOND);
        if (!isBetween(v, -MOST_WRITTEN, MOST_WRITTEN)) return found(BEYOND);
        sheets.numbers[s][i] = sheets.bits[s] == BYTE_BITS ? (byte) v : v;
        return 1;
    }

    public int read(int s, int i) {
        if (!isIn(s, SHEETS)) return found(BEYOND);
        if (sheets.isMissing(s)) return found(MISSING);
        if (!isIn(i, sheets.length[s])) return found(BEYOND);
        return sheets.numbers[s][i];
    }

    public int copy(int s, int from, int t, int to, int n) {
        if (!isIn(s, SHEETS) || !isIn(t, SHEETS)) return found(BEYOND);
        if (sheets.isMissing(s) || sheets.isMissing(t)) return found(MISSING);
        if (sheets.bits[s] != sheets.bits[t]) return found(KIND);
        if (!sheets.hasRange(s, from, n) || !sheets.hasRange(t, to, n)) return found(BEYOND);
        System.arraycopy(sheets.numbers[s], from, sheets.numbers[t], to, n);
        return n;
    }

    // ---- images

    public int image() {
        kept.become(now);
        isKept = true;
        return 1;
    }

    public int undo() {
        if (!isKept) return found(NONE);
        now.become(kept);
        return now.coast.hour;
    }

    public int tear() {
        int was = isKept ? 1 : 0;
        isKept = false;
        return was;
    }

    public int count(int what) {
        switch (what) {
            case 0: return now.coast.roads;
            case 1: return now.coast.units;
            case 2: return now.shows.size;
            case 3: return now.desk.size;
            case 4: return now.texts.size;
            case 5: return now.eyes.flights;
            case 6: return now.eyes.listeners;
            case 7: return now.coast.hour;
            case 8: return now.coast.pool;
            case 9: return now.coast.coin;
            case 10: return now.shows.standing();
            case 11: return now.collectPairs();
            case 12: return tape.length;
            case 13: return now.desk.fade;
            case 14: return now.desk.troops;
            default: return found(BEYOND);
        }
    }

    public int status(int which) {
        if (isIn(which, FINDINGS)) return findings[which];
        if (which != -1) return found(BEYOND);
        int all = 0;
        for (int count : findings) all += count;
        return all;
    }

    /** Counts a finding, so that status() can tell of it, and answers it. */
    private int found(int finding) {
        int which = BEYOND - finding;
        if (isIn(which, FINDINGS)) findings[which]++;
        return finding;
    }

    private static boolean isIn(int number, int size) {
        return number >= 0 && number < size;
    }

    private static boolean isBetween(int number, int least, int most) {
        return number >= least && number <= most;
    }

    /** Whether what is of the one kind is also of the other one. */
    private static boolean isUnder(int kind, int above) {
        return kind == above || above == SHOW || above == DUMMY && kind == CAMP;
    }

    /** Cells, roads, units, the places of the stories, the open hour, its weather, the purse. */
    private static final class Coast {
        final int[] ground = new int[CELLS];
        final int[] roadA = new int[ROADS];
        final int[] roadB = new int[ROADS];
        final int[] roadHours = new int[ROADS];
        int roads;
        final int[] unitCell = new int[UNITS];
        final int[] unitStrength = new int[UNITS];
        final int[] unitRoad = new int[UNITS];
        final int[] unitToGo = new int[UNITS];
        int units;
        final int[] place = new int[STORIES];
        int hour;
        int wind;
        int cloud;
        int pool;
        int coin;

        int addRoad(int a, int b, int hours) {
            if (!isIn(roads, ROADS)) return NO;
            roadA[roads] = a;
            roadB[roads] = b;
            roadHours[roads] = hours;
            return roads++;
        }

        int addUnit(int cell, int strength) {
            if (!isIn(units, UNITS)) return NO;
            unitCell[units] = cell;
            unitStrength[units] = strength;
            unitRoad[units] = NO;
            unitToGo[units] = 0;
            return units++;
        }

        boolean isOnRoad(int unit) {
            return unitRoad[unit] != NO;
        }

        boolean leadsFrom(int road, int cell) {
            return roadA[road] == cell || roadB[road] == cell;
        }

        /** Each unit on a road goes on by one hour. */
        void march() {
            for (int u = 0; u < units; u++) {
                int road = unitRoad[u];
                if (!isIn(road, roads)) continue;
                unitToGo[u]--;
                if (unitToGo[u] > 0) continue;
                unitCell[u] = roadA[road] == unitCell[u] ? roadB[road] : roadA[road];
                unitRoad[u] = NO;
            }
        }

        void become(Coast other) {
            System.arraycopy(other.ground, 0, ground, 0, CELLS);
            System.arraycopy(other.roadA, 0, roadA, 0, ROADS);
            System.arraycopy(other.roadB, 0, roadB, 0, ROADS);
            System.arraycopy(other.roadHours, 0, roadHours, 0, ROADS);
            roads = other.roads;
            System.arraycopy(other.unitCell, 0, unitCell, 0, UNITS);
            System.arraycopy(other.unitStrength, 0, unitStrength, 0, UNITS);
            System.arraycopy(other.unitRoad, 0, unitRoad, 0, UNITS);
            System.arraycopy(other.unitToGo, 0, unitToGo, 0, UNITS);
            units = other.units;
            System.arraycopy(other.place, 0, place, 0, STORIES);
            hour = other.hour;
            wind = other.wind;
            cloud = other.cloud;
            pool = other.pool;
            coin = other.coin;
        }
    }

    /** The shows, by number; what a and b say hangs on the kind. */
    private static final class Shows {
        final int[] kind = new int[SHOWS];
        final int[] story = new int[SHOWS];
        final int[] cell = new int[SHOWS];
        final int[] a = new int[SHOWS];
        final int[] b = new int[SHOWS];
        final boolean[] stands = new boolean[SHOWS];
        /** The hour in which a show came to stand, or ceased to. */
        final int[] since = new int[SHOWS];
        final boolean[] isBroken = new boolean[SHOWS];
        final int[] hands = new int[SHOWS];
        final int[] cost = new int[SHOWS];
        int size;

        int add(int kind, int story, int cell, int a, int b) {
            if (!isIn(size, SHOWS)) return NO;
            this.kind[size] = kind;
            this.story[size] = story;
            this.cell[size] = cell;
            this.a[size] = a;
            this.b[size] = b;
            stands[size] = false;
            since[size] = 0;
            isBroken[size] = false;
            hands[size] = 0;
            cost[size] = 0;
            return size++;
        }

        boolean has(int show) {
            return isIn(show, size);
        }

        /** Whether a set holds no other shows than there are. */
        boolean hasAll(int set) {
            return set >= 0 && set >> size == 0;
        }

        int need(int show) {
            return NEEDS[kind[show]];
        }

        int price(int show) {
            return kind[show] == NET ? b[show] - a[show] + 1 : PRICES[kind[show]];
        }

        int top(int show) {
            return kind[show] == SHOW ? 0 : a[show];
        }

        /** The credit of a report that a show would give by itself, as plans take it. */
        int credit(int show) {
            switch (kind[show]) {
                case NET: return HEARD_CREDIT;
                case VOICE:
                case PAPER: return a[show];
                case QUIET: return 0;
                default: return SEEN_CREDIT;
            }
        }

        int standing() {
            int n = 0;
            for (int i = 0; i < size; i++) {
                if (stands[i]) n++;
            }
            return n;
        }

        int handsOfAll() {
            int n = 0;
            for (int i = 0; i < size; i++) n += hands[i];
            return n;
        }

        int needsOf(int set) {
            int n = 0;
            for (int i = 0; i < size; i++) {
                if ((set >> i & 1) != 0) n += need(i);
            }
            return n;
        }

        int pricesOf(int set) {
            int n = 0;
            for (int i = 0; i < size; i++) {
                if ((set >> i & 1) != 0) n += price(i);
            }
            return n;
        }

        void breakBy(int wind) {
            for (int i = 0; i < size; i++) {
                if (isUnder(kind[i], DUMMY) && stands[i] && b[i] < wind) isBroken[i] = true;
            }
        }

        /** Pays each show that stands, as long as the coin lasts; answers the coin that is left. */
        int pay(int coin) {
            for (int i = 0; i < size; i++) {
                if (!stands[i]) continue;
                int price = price(i);
                if (price > coin) {
                    stands[i] = false;
                } else {
                    coin -= price;
                    cost[i] += price;
                }
            }
            return coin;
        }

        void become(Shows other) {
            System.arraycopy(other.kind, 0, kind, 0, SHOWS);
            System.arraycopy(other.story, 0, story, 0, SHOWS);
            System.arraycopy(other.cell, 0, cell, 0, SHOWS);
            System.arraycopy(other.a, 0, a, 0, SHOWS);
            System.arraycopy(other.b, 0, b, 0, SHOWS);
            System.arraycopy(other.stands, 0, stands, 0, SHOWS);
            System.arraycopy(other.since, 0, since, 0, SHOWS);
            System.arraycopy(other.isBroken, 0, isBroken, 0, SHOWS);
            System.arraycopy(other.hands, 0, hands, 0, SHOWS);
            System.arraycopy(other.cost, 0, cost, 0, SHOWS);
            size = other.size;
        }
    }

    /** Flights and listeners. */
    private static final class Eyes {
        final int[] flightHour = new int[FLIGHTS];
        final int[] flightCell = new int[FLIGHTS];
        final int[] flightHeight = new int[FLIGHTS];
        final int[] flightLate = new int[FLIGHTS];
        int flights;
        final int[] listenHour = new int[LISTENERS];
        int listeners;

        int addFlight(int hour, int cell, int height, int late) {
            if (!isIn(flights, FLIGHTS)) return NO;
            flightHour[flights] = hour;
            flightCell[flights] = cell;
            flightHeight[flights] = height;
            flightLate[flights] = late;
            return flights++;
        }

        int addListener(int hour) {
            if (!isIn(listeners, LISTENERS)) return NO;
            listenHour[listeners] = hour;
            return ++listeners;
        }

        boolean isSeeing(int flight, int hour, int cloud) {
            return flightHour[flight] == hour && flightHeight[flight] + cloud <= HIGHEST;
        }

        /** Whether a low flight is over one of two cells in some of the hours from one on. */
        boolean hasLow(int a, int b, int hour, int hours) {
            for (int f = 0; f < flights; f++) {
                boolean isOver = flightCell[f] == a || flightCell[f] == b;
                boolean isThen = flightHour[f] >= hour && flightHour[f] < hour + hours;
                if (isOver && isThen && flightHeight[f] <= LOW_HEIGHT) return true;
            }
            return false;
        }

        void become(Eyes other) {
            System.arraycopy(other.flightHour, 0, flightHour, 0, FLIGHTS);
            System.arraycopy(other.flightCell, 0, flightCell, 0, FLIGHTS);
            System.arraycopy(other.flightHeight, 0, flightHeight, 0, FLIGHTS);
            System.arraycopy(other.flightLate, 0, flightLate, 0, FLIGHTS);
            flights = other.flights;
            System.arraycopy(other.listenHour, 0, listenHour, 0, LISTENERS);
            listeners = other.listeners;
        }
    }

    /** The reports, and the troops that are parted by them. */
    private static final class Desk {
        final int[] source = new int[REPORTS];
        final int[] story = new int[REPORTS];
        final boolean[] isFor = new boolean[REPORTS];
        final int[] got = new int[REPORTS];
        final int[] known = new int[REPORTS];
        final int[] show = new int[REPORTS];
        final boolean[] isStruck = new boolean[REPORTS];
        int size;
        int fade = FIRST_FADE;
        int troops;
        final int[] parts = new int[STORIES];
        private final long[] rests = new long[STORIES];
        private final int[] newParts = new int[STORIES];

        int room() {
            return REPORTS - size;
        }

        /** Keeps a report, if there is room for it. */
        void add(int source, int story, boolean isFor, int got, int known, int show) {
            if (!isIn(size, REPORTS)) return;
            this.source[size] = source;
            this.story[size] = story;
            this.isFor[size] = isFor;
            this.got[size] = got;
            this.known[size] = known;
            this.show[size] = show;
            isStruck[size] = false;
            size++;
        }

        int credit(int report, Shows shows) {
            switch (source[report]) {
                case FROM_LISTENER: return HEARD_CREDIT;
                case FROM_PRISONER: return PRISONER_CREDIT;
                case FROM_VOICE:
                case FROM_PAPER: return shows.has(show[report]) ? shows.a[show[report]] : 0;
                default: return SEEN_CREDIT;
            }
        }

        boolean isCounted(int report, int hour) {
            return !isStruck[report] && known[report] <= hour
                && got[report] >= hour - DAY_HOURS * fade;
        }

        int knownBy(int hour) {
            int n = 0;
            for (int r = 0; r < size; r++) {
                if (known[r] <= hour) n++;
            }
            return n;
        }

        /** Parts the troops by what the stories weigh; answers how many parts are others. */
        int part(Scales scales) {
            long all = Math.max(1, scales.sum());
            int left = troops;
            for (int s = 0; s < STORIES; s++) {
                long share = troops * scales.weights[s];
                newParts[s] = (int) (share / all);
                rests[s] = share % all;
                left -= newParts[s];
            }
            for (int i = 0; i < STORIES && left > 0; i++) {
                int s = greatestRest();
                newParts[s]++;
                rests[s] = NO;
                left--;
            }
            int others = 0;
            for (int s = 0; s < STORIES; s++) {
                if (parts[s] != newParts[s]) others++;
                parts[s] = newParts[s];
            }
            return others;
        }

        private int greatestRest() {
            int best = 0;
            for (int s = 1; s < STORIES; s++) {
                if (rests[s] > rests[best]) best = s;
            }
            return best;
        }

        void become(Desk other) {
            System.arraycopy(other.source, 0, source, 0, REPORTS);
            System.arraycopy(other.story, 0, story, 0, REPORTS);
            System.arraycopy(other.isFor, 0, isFor, 0, REPORTS);
            System.arraycopy(other.got, 0, got, 0, REPORTS);
            System.arraycopy(other.known, 0, known, 0, REPORTS);
            System.arraycopy(other.show, 0, show, 0, REPORTS);
            System.arraycopy(other.isStruck, 0, isStruck, 0, REPORTS);
            size = other.size;
            fade = other.fade;
            troops = other.troops;
            System.arraycopy(other.parts, 0, parts, 0, STORIES);
        }
    }

    /** What the stories weigh by the latest reports that count at an hour. */
    private static final class Scales {
        final long[] weights = new long[STORIES];
        /** The reports that are counted, the latest first. */
        private final int[] latest = new int[COUNTED];
        int size;
        /** Row k: the weights by the k latest alone, so that more can be put in place of the oldest. */
        private final long[][] byLatest = new long[COUNTED + 1][STORIES];

        void load(Desk desk, Shows shows, int hour) {
            size = 0;
            for (int r = 0; r < desk.size; r++) {
                if (desk.isCounted(r, hour)) insert(r, desk);
            }
            Arrays.fill(weights, 1);
            System.arraycopy(weights, 0, byLatest[0], 0, STORIES);
            for (int k = 0; k < size; k++) {
                int r = latest[k];
                put(desk.story[r], desk.isFor[r], desk.credit(r, shows));
                System.arraycopy(weights, 0, byLatest[k + 1], 0, STORIES);
            }
        }

        /** Reports come by number, so one of a like hour is later than those that are here. */
        private void insert(int report, Desk desk) {
            int at = size;
            while (at > 0 && desk.got[latest[at - 1]] <= desk.got[report]) at--;
            if (at >= COUNTED) return;
            if (size < COUNTED) size++;
            for (int k = size - 1; k > at; k--) latest[k] = latest[k - 1];
            latest[at] = report;
        }

        /** Takes the weights by so few of the latest that n more can be put. */
        void leaveRoomFor(int n) {
            int left = Math.max(0, Math.min(size, COUNTED - n));
            System.arraycopy(byLatest[left], 0, weights, 0, STORIES);
        }

        void put(int story, boolean isFor, int credit) {
            for (int s = 0; s < STORIES; s++) {
                if ((s == story) == isFor) weights[s] *= credit + 1;
            }
        }

        /** Weighs anew, as if each show of a set gave a report, all of them latest. */
        void putGiven(int set, Shows shows) {
            leaveRoomFor(Integer.bitCount(set));
            for (int i = 0; i < shows.size; i++) {
                if ((set >> i & 1) != 0) put(shows.story[i], true, shows.credit(i));
            }
        }

        /** Weighs anew, as if each show of a set gave a report on so many days, the latest ones. */
        void putDaily(int set, int days, Shows shows) {
            int room = Math.min(COUNTED, Integer.bitCount(set) * days);
            leaveRoomFor(room);
            for (int d = 0; d < days && room > 0; d++) {
                for (int i = shows.size - 1; i >= 0 && room > 0; i--) {
                    if ((set >> i & 1) == 0) continue;
                    put(shows.story[i], true, shows.credit(i));
                    room--;
                }
            }
        }

        long sum() {
            long sum = 0;
            for (int s = 0; s < STORIES; s++) sum += weights[s];
            return sum;
        }

        int heaviest() {
            int best = 0;
            for (int s = 1; s < STORIES; s++) {
                if (weights[s] > weights[best]) best = s;
            }
            return best;
        }

        /** How likely a story is, as a fraction in lowest terms: one of its two numbers. */
        long cleared(int story, boolean below) {
            long divisor = weights[story];
            long rest = sum();
            // By Euclid the numbers are at least halved in two rounds, so 128 are enough.
            for (int i = 0; i < 128 && rest > 0; i++) {
                long next = divisor % rest;
                divisor = rest;
                rest = next;
            }
            return (below ? sum() : weights[story]) / Math.max(1, divisor);
        }
    }

    /** The texts, as they were read: clauses in rows, the tests of a clause in rows behind it. */
    private static final class Texts {
        final int[] from = new int[TEXTS];
        final int[] to = new int[TEXTS];
        final boolean[] isVoid = new boolean[TEXTS];
        final int[] clauses = new int[TEXTS];
        int size;
        final int[] verb = new int[CLAUSE_ROWS];
        final int[] kind = new int[CLAUSE_ROWS];
        final int[] tests = new int[CLAUSE_ROWS];
        final boolean[] isNot = new boolean[CLAUSE_ROWS * TESTS];
        final boolean[] opensAnd = new boolean[CLAUSE_ROWS * TESTS];
        final int[] fact = new int[CLAUSE_ROWS * TESTS];
        final int[] sign = new int[CLAUSE_ROWS * TESTS];
        final int[] number = new int[CLAUSE_ROWS * TESTS];

        /** The text whose clauses the tape has put behind the others is one of them from now on. */
        int add(int from, int to) {
            if (!isIn(size, TEXTS)) return NO;
            this.from[size] = from;
            this.to[size] = to;
            isVoid[size] = false;
            return size++;
        }

        boolean says(int clause, int verb) {
            return isIn(clause, CLAUSE_ROWS) && this.verb[clause] == verb;
        }

        /** The row of the first clause that is about a show of a kind with such facts, or NO. */
        int clauseAbout(int kind, int day, int[] facts) {
            for (int t = size - 1; t >= 0; t--) {
                if (isVoid[t] || !isBetween(day, from[t], to[t])) continue;
                for (int c = 0; c < clauses[t]; c++) {
                    int row = 10 * t + c;
                    if (isUnder(kind, this.kind[row]) && holds(row, facts)) return row;
                }
            }
            return NO;
        }

        /** Whether one AND of a clause has only tests that are so; without tests it holds. */
        private boolean holds(int clause, int[] facts) {
            boolean isAllSo = true;
            for (int i = 0; i < tests[clause]; i++) {
                int test = TESTS * clause + i;
                if (opensAnd[test]) {
                    if (isAllSo) return true;
                    isAllSo = true;
                }
                int value = facts[fact[test]];
                boolean isSo;
                switch (sign[test]) {
                    case LESS: isSo = value < number[test]; break;
                    case GREATER: isSo = value > number[test]; break;
                    default: isSo = value == number[test];
                }
                if (isSo == isNot[test]) isAllSo = false;
            }
            return isAllSo;
        }

        void become(Texts other) {
            System.arraycopy(other.from, 0, from, 0, TEXTS);
            System.arraycopy(other.to, 0, to, 0, TEXTS);
            System.arraycopy(other.isVoid, 0, isVoid, 0, TEXTS);
            System.arraycopy(other.clauses, 0, clauses, 0, TEXTS);
            size = other.size;
            System.arraycopy(other.verb, 0, verb, 0, CLAUSE_ROWS);
            System.arraycopy(other.kind, 0, kind, 0, CLAUSE_ROWS);
            System.arraycopy(other.tests, 0, tests, 0, CLAUSE_ROWS);
            System.arraycopy(other.isNot, 0, isNot, 0, CLAUSE_ROWS * TESTS);
            System.arraycopy(other.opensAnd, 0, opensAnd, 0, CLAUSE_ROWS * TESTS);
            System.arraycopy(other.fact, 0, fact, 0, CLAUSE_ROWS * TESTS);
            System.arraycopy(other.sign, 0, sign, 0, CLAUSE_ROWS * TESTS);
            System.arraycopy(other.number, 0, number, 0, CLAUSE_ROWS * TESTS);
        }
    }

    /** The tape, and how it is read: a place runs on as long as a text can begin so. */
    private static final class Tape {
        private final int[] bytes = new int[TAPE];
        int length;
        private int place;

        void add(int value) {
            if (isIn(length, TAPE)) bytes[length++] = value;
        }

        /** Reads the tape into the row behind the texts that there are: the fault, or NO. */
        int faultOf(Texts texts) {
            place = 0;
            int text = texts.size;
            if (!isIn(text, TEXTS)) return place;
            for (int c = 0; c < CLAUSES; c++) {
                if (c > 0 && !take(';')) return place;
                if (!readClause(texts, 10 * text + c)) return place;
                texts.clauses[text] = c + 1;
                if (place == length) return NO;
            }
            return place;
        }

        private boolean readClause(Texts texts, int clause) {
            int verb = choose(VERBS);
            if (verb == NO || !take(' ')) return false;
            int kind = choose(KIND_WORDS);
            if (kind == NO) return false;
            texts.verb[clause] = verb;
            texts.kind[clause] = kind;
            texts.tests[clause] = 0;
            if (!take(' ')) return true;
            return choose(IF_WORD) != NO && take(' ') && readTests(texts, clause);
        }

        private boolean readTests(Texts texts, int clause) {
            boolean opensAnd = false;
            for (int i = 0; i < TESTS; i++) {
                int test = TESTS * clause + i;
                texts.opensAnd[test] = opensAnd;
                if (!readTest(texts, test)) return false;
                texts.tests[clause] = i + 1;
                if (i + 1 == TESTS) return true;
                opensAnd = take('|');
                if (!opensAnd && !take('&')) return true;
            }
            return true;
        }

        private boolean readTest(Texts texts, int test) {
            texts.isNot[test] = take('!');
            int fact = choose(FACT_WORDS);
            if (fact == NO) return false;
            int sign = choose(SIGNS);
            if (sign == NO) return false;
            int start = place;
            int number = 0;
            while (place < length && place < start + DIGITS && isBetween(bytes[place], '0', '9')) {
                number = 10 * number + bytes[place] - '0';
                place++;
            }
            texts.fact[test] = fact;
            texts.sign[test] = sign;
            texts.number[test] = number;
            return place > start;
        }

        private boolean take(char sign) {
            if (place >= length || bytes[place] != sign) return false;
            place++;
            return true;
        }

        /** Which of some words (a blank behind each) stands here; if none, goes on as far as one fits. */
        private int choose(String words) {
            int farthest = 0;
            int which = 0;
            int start = 0;
            for (int end = 0; end < words.length(); end++) {
                if (words.charAt(end) != ' ') continue;
                int fit = fitOf(words, start, end);
                if (fit == end - start) {
                    place += fit;
                    return which;
                }
                farthest = Math.max(farthest, fit);
                start = end + 1;
                which++;
            }
            place += farthest;
            return NO;
        }

        private int fitOf(String words, int start, int end) {
            int fit = 0;
            while (start + fit < end && place + fit < length
                    && bytes[place + fit] == words.charAt(start + fit)) {
                fit++;
            }
            return fit;
        }
    }

    /** Four rows of numbers; as all that is written fits, a float is kept as an int, CLOUDED as 999. */
    private static final class Sheets {
        final int[] bits = new int[SHEETS];
        final int[] length = new int[SHEETS];
        final int[][] numbers = new int[SHEETS][SHEET_NUMBERS];

        boolean isMissing(int s) {
            return bits[s] == 0;
        }

        /** Whether a sheet has n numbers from one on; told so that no sum can overflow. */
        boolean hasRange(int s, int from, int n) {
            return from >= 0 && n >= 0 && from <= length[s] && n <= length[s] - from;
        }
    }

    /** All that an image keeps, and what needs more than one part of it. */
    private static final class World {
        final Coast coast = new Coast();
        final Shows shows = new Shows();
        final Eyes eyes = new Eyes();
        final Desk desk = new Desk();
        final Texts texts = new Texts();
        /** Six numbers a day, one day behind the other. */
        final int[] book = new int[DAYS * BOOK_NUMBERS];
        /** The pairs that collectPairs() found latest. */
        final int[] pairs = new int[PAIRS];
        private final Scales scales = new Scales();
        private final int[] facts = new int[FACTS];

        void become(World other) {
            coast.become(other.coast);
            shows.become(other.shows);
            eyes.become(other.eyes);
            desk.become(other.desk);
            texts.become(other.texts);
            System.arraycopy(other.book, 0, book, 0, DAYS * BOOK_NUMBERS);
        }

        /** The clause of a show, in the order in which FACT_WORDS tells the facts, or NO. */
        int clauseOf(int show) {
            int day = coast.hour / DAY_HOURS;
            facts[0] = day;
            facts[1] = coast.hour % DAY_HOURS;
            facts[2] = shows.hands[show];
            facts[3] = shows.story[show];
            facts[4] = shows.cell[show];
            return texts.clauseAbout(shows.kind[show], day, facts);
        }

        boolean isShown(int show) {
            return shows.stands[show] && !shows.isBroken[show]
                && shows.hands[show] >= shows.need(show)
                && !texts.says(clauseOf(show), BAR);
        }

        int shownSet() {
            int set = 0;
            for (int i = 0; i < shows.size; i++) {
                if (isShown(i)) set |= 1 << i;
            }
            return set;
        }

        boolean isQuiet(int unit) {
            for (int i = 0; i < shows.size; i++) {
                if (shows.kind[i] == QUIET && shows.a[i] == unit && isShown(i)) return true;
            }
            return false;
        }

        int firstStill(int road) {
            int last = coast.hour + STILL_HOURS;
            for (int hour = coast.hour; hour <= last; hour++) {
                int hours = coast.roadHours[road];
                if (!eyes.hasLow(coast.roadA[road], coast.roadB[road], hour, hours)) return hour;
            }
            return NO;
        }

        void reportShow(int source, int show, boolean isFor, int known) {
            desk.add(source, shows.story[show], isFor, coast.hour, known, show);
        }

        void reportStory(int source, int story, boolean isFor, int known) {
            desk.add(source, story, isFor, coast.hour, known, NO);
        }

        void develop(int show, boolean isFor, int got) {
            desk.add(FROM_FILM, shows.story[show], isFor, got, coast.hour, show);
        }

        Scales scalesAt(int hour) {
            scales.load(desk, shows, hour);
            return scales;
        }

        int carriersOf(int show) {
            int set = 0;
            for (int i = 0; i < shows.size; i++) {
                if (i != show && shows.story[i] == shows.story[show] && isShown(i)) set |= 1 << i;
            }
            return set;
        }

        /** Finds all pairs that agree not; answers how many there are. */
        int collectPairs() {
            int shown = shownSet();
            int n = 0;
            for (int i = 0; i < shows.size; i++) {
                for (int j = i + 1; j < shows.size; j++) {
                    if ((shown >> i & shown >> j & 1) == 0) continue;
                    int eye = eyeOn(i, j);
                    if (eye == NO || !isIn(n, PAIRS)) continue;
                    pairs[n] = (eye * SHOWS + i) * SHOWS + j;
                    n++;
                }
            }
            return n;
        }

        static int eyeOf(int pair) {
            return pair / (SHOWS * SHOWS);
        }

        static int lesserOf(int pair) {
            return pair / SHOWS % SHOWS;
        }

        static int greaterOf(int pair) {
            return pair % SHOWS;
        }

        /** The eye that could see two shows tell unlike stories, or NO. */
        private int eyeOn(int i, int j) {
            if (shows.story[i] == shows.story[j]) return NO;
            int kind = shows.kind[i];
            int other = shows.kind[j];
            if (kind <= CAMP && other <= CAMP) {
                return shows.cell[i] == shows.cell[j] ? BY_FLIGHT : NO;
            }
            if (kind == NET && other == NET) {
                boolean meet = shows.a[i] <= shows.b[j] && shows.a[j] <= shows.b[i];
                return meet ? BY_LISTENER : NO;
            }
            return kind == VOICE && other == VOICE ? BY_DESK : NO;
        }

        int planFor(int story, int set, int hands, int coin) {
            scales.load(desk, shows, coast.hour);
            int best = 0;
            long bestWeight = 0;
            long bestSum = 1;
            int subset = 0;
            // At most 9 shows: no more than 512 subsets, from the least as bits on.
            for (int i = 0; i < 1 << MOST_PLANNED; i++) {
                if (shows.needsOf(subset) <= hands && shows.pricesOf(subset) <= coin) {
                    scales.putGiven(subset, shows);
                    long weight = scales.weights[story];
                    long sum = scales.sum();
                    // The fractions crosswise; all products stay below 10 to the 18th.
                    long more = weight * bestSum - bestWeight * sum;
                    boolean isFewer = Integer.bitCount(subset) < Integer.bitCount(best);
                    if (more > 0 || more == 0 && isFewer) {
                        best = subset;
                        bestWeight = weight;
                        bestSum = sum;
                    }
                }
                subset = subset - set & set;
                if (subset == 0) break;
            }
            return best;
        }

        /** The first of the days ahead on which a story is not the likeliest, or NO. */
        int firstDayWithout(int story, int shown) {
            for (int d = 1; d <= LAST_DAYS; d++) {
                scales.load(desk, shows, coast.hour + DAY_HOURS * d);
                // Of the days told since, only those count that have not faded.
                scales.putDaily(shown, Math.min(d, desk.fade + 1), shows);
                if (scales.heaviest() != story) return d;
            }
            return NO;
        }

        boolean isClosed(int day) {
            return day < coast.hour / DAY_HOURS;
        }

        void closeHour() {
            shows.breakBy(coast.wind);
            for (int f = 0; f < eyes.flights; f++) {
                if (!eyes.isSeeing(f, coast.hour, coast.cloud)) continue;
                seeShows(f);
                seeUnits(f);
            }
            for (int l = 0; l < eyes.listeners; l++) {
                if (eyes.listenHour[l] == coast.hour) hearNets();
            }
            findPapers();
            coast.march();
            if (coast.hour % DAY_HOURS == DAY_HOURS - 1) closeDay();
            coast.hour++;
        }

        private void seeShows(int flight) {
            int known = coast.hour + eyes.flightLate[flight];
            for (int i = 0; i < shows.size; i++) {
                if (shows.kind[i] > CAMP || shows.cell[i] != eyes.flightCell[flight]) continue;
                if (!isShown(i)) continue;
                boolean isFor = eyes.flightHeight[flight] >= shows.top(i);
                reportShow(FROM_FLIGHT, i, isFor, known);
            }
        }

        private void seeUnits(int flight) {
            int known = coast.hour + eyes.flightLate[flight];
            int cell = eyes.flightCell[flight];
            if (coast.ground[cell] == WOOD && eyes.flightHeight[flight] > WOOD_HEIGHT) return;
            for (int u = 0; u < coast.units; u++) {
                if (coast.unitCell[u] != cell || coast.isOnRoad(u)) continue;
                for (int s = 0; s < STORIES; s++) {
                    if (coast.place[s] == cell) reportStory(FROM_FLIGHT, s, true, known);
                }
            }
        }

        private void hearNets() {
            int time = coast.hour % DAY_HOURS;
            for (int i = 0; i < shows.size; i++) {
                if (shows.kind[i] != NET || !isBetween(time, shows.a[i], shows.b[i])) continue;
                if (isShown(i)) reportShow(FROM_LISTENER, i, true, coast.hour);
            }
        }

        private void findPapers() {
            for (int i = 0; i < shows.size; i++) {
                if (shows.kind[i] != PAPER || !shows.stands[i]) continue;
                if (coast.hour - shows.since[i] < shows.b[i] || !isShown(i)) continue;
                reportShow(FROM_PAPER, i, true, coast.hour);
                shows.stands[i] = false;
            }
        }

        private void closeDay() {
            coast.coin = shows.pay(coast.coin);
            int day = coast.hour / DAY_HOURS;
            if (!isIn(day, DAYS)) return;
            int row = BOOK_NUMBERS * day;
            book[row] = coast.pool;
            book[row + 1] = shows.handsOfAll();
            book[row + 2] = coast.coin;
            book[row + 3] = shows.standing();
            book[row + 4] = desk.knownBy(coast.hour);
            scales.load(desk, shows, coast.hour);
            book[row + 5] = scales.heaviest();
        }
    }
}
