/** Promises 45 to 48: tick, book, check, known; and how an HOUR is closed. */
public final class HoursTest {
    private static final Due due = new Due();

    public static void main(String[] args) {
        tick();
        wind();
        flightsSeeShows();
        flightsSeeUnits();
        cloud();
        orderOfReports();
        listenersHear();
        papersAreFound();
        unitsMarch();
        byDaysAndTimes();
        eachShowIsAsked();
        likeliestOfTheBook();
        eachUnitMarches();
        noRoom();
        noRoomForAny();
        paying();
        payingToTheLast();
        book();
        check();
        known();
        due.end();
    }

    private static void tick() {
        GhostCoast x = new GhostCoast();
        due.is("tick 0", x.tick(0), Due.BEYOND);
        due.is("tick 100", x.tick(100), Due.BEYOND);
        due.is("tick -1", x.tick(-1), Due.BEYOND);
        due.is("tick most", x.tick(Integer.MAX_VALUE), Due.BEYOND);
        due.is("tick", x.tick(1), 1);
        for (int hour = 100; hour <= 1882; hour += 99) due.is("tick", x.tick(99), hour);
        due.is("above the last", x.tick(62), Due.FULL);
        due.is("beyond and above", x.tick(100), Due.BEYOND);
        due.is("the open hour", x.count(7), 1882);
        due.is("the last", x.tick(61), 1943);
        due.is("no more", x.tick(1), Due.FULL);
        due.is("the last day that is closed", x.book(79, 2), 0);
        due.is("a day that isn't", x.book(80, 2), Due.NONE);
    }

    private static void wind() {
        GhostCoast x = new GhostCoast();
        Due.shown(x, 1, 0, 904, 1);
        Due.shown(x, 2, 0, 904, 4);
        Due.shown(x, 0, 0, 900, 0);
        x.show(1, 0, 900);
        x.weather(4, 0);
        x.tick(1);
        due.is("bears as much", x.of(0, 4), 0);
        x.weather(5, 0);
        x.tick(1);
        due.is("a dummy that bears less", x.of(0, 4), 1);
        due.is("a camp that bears less", x.of(1, 4), 1);
        due.is("a show", x.of(2, 4), 0);
        due.is("one that doesn't stand", x.of(3, 4), 0);
        x.weather(0, 0);
        x.tick(1);
        due.is("broken it stays", x.of(0, 4), 1);
        // The wind comes ahead of the flights of the hour.
        GhostCoast y = new GhostCoast();
        Due.shown(y, 1, 0, 0, 1);
        y.weather(1, 0);
        y.flight(0, 9, 0);
        y.tick(1);
        due.is("no report of what the wind broke", y.count(3), 0);
    }

    private static void flightsSeeShows() {
        GhostCoast x = new GhostCoast();
        Due.shown(x, 1, 103, 509, 1);
        Due.shown(x, 0, 203, 909, 0);
        Due.shown(x, 3, 3, 23, 2);
        Due.shown(x, 4, 3, 0, 0);
        Due.shown(x, 0, 304, 0, 0);
        x.show(0, 303, 0);
        x.story(0, 9);
        x.flight(1, 35, 7);
        x.flight(1, 34, 0);
        x.flight(2, 40, 0);
        x.tick(1);
        due.is("none in hour 0", x.count(3), 0);
        x.tick(1);
        due.is("four in hour 1", x.count(3), 4);
        EyesTest.report(due, x, 0, 0, 1, 1, 1, 8, 0, 0, 2);
        EyesTest.report(due, x, 1, 0, 2, 1, 1, 8, 1, 0, 2);
        EyesTest.report(due, x, 2, 0, 1, 0, 1, 1, 0, 0, 2);
        EyesTest.report(due, x, 3, 0, 2, 1, 1, 1, 1, 0, 2);
        x.tick(1);
        EyesTest.report(due, x, 4, 0, 3, 1, 2, 2, 4, 0, 2);
    }

    private static void flightsSeeUnits() {
        GhostCoast x = new GhostCoast();
        x.unit(5, 1);
        x.unit(6, 1);
        x.unit(5, 1);
        x.road(5, 6, 30);
        x.story(1, 5);
        x.story(3, 5);
        x.flight(0, 53, 4);
        x.tick(1);
        due.is("two units, two stories", x.count(3), 4);
        EyesTest.report(due, x, 0, 0, 1, 1, 0, 4, -1, 0, 2);
        EyesTest.report(due, x, 1, 0, 3, 1, 0, 4, -1, 0, 2);
        EyesTest.report(due, x, 2, 0, 1, 1, 0, 4, -1, 0, 2);
        x.move(2, 0);
        x.cell(5, 1);
        x.flight(1, 53, 0);
        x.tick(1);
        due.is("in a wood, too high", x.count(3), 4);
        x.flight(2, 52, 0);
        x.tick(1);
        due.is("in a wood, low; one is on a road", x.count(3), 6);
        x.cell(5, 3);
        x.flight(3, 59, 0);
        x.tick(1);
        due.is("in a town, high", x.count(3), 8);
        x.flight(4, 60, 0);
        x.tick(1);
        due.is("no story has that place", x.count(3), 8);
        x.story(0, 6);
        x.flight(5, 60, 0);
        x.tick(1);
        EyesTest.report(due, x, 8, 0, 0, 1, 5, 5, -1, 0, 2);
    }

    private static void cloud() {
        GhostCoast x = new GhostCoast();
        Due.shown(x, 0, 101, 0, 0);
        x.weather(0, 5);
        x.flight(0, 15, 0);
        x.flight(0, 14, 0);
        x.tick(1);
        due.is("10 together sees nothing, 9 does", x.count(3), 1);
        x.weather(0, 0);
        x.flight(1, 19, 0);
        x.tick(1);
        due.is("9 without a cloud", x.count(3), 2);
    }

    private static void orderOfReports() {
        GhostCoast x = new GhostCoast();
        x.unit(2, 1);
        for (int s = 0; s < 4; s++) x.story(s, s == 2 ? 2 : 9);
        Due.shown(x, 5, 102, 200, 0);
        Due.shown(x, 3, 2, 0, 2);
        Due.shown(x, 0, 302, 0, 0);
        x.listen(0);
        x.flight(0, 20, 1);
        x.flight(0, 21, 0);
        x.tick(1);
        EyesTest.report(due, x, 0, 0, 3, 1, 0, 1, 2, 0, 2);
        EyesTest.report(due, x, 1, 0, 2, 1, 0, 1, -1, 0, 2);
        EyesTest.report(due, x, 2, 0, 3, 1, 0, 0, 2, 0, 2);
        EyesTest.report(due, x, 3, 0, 2, 1, 0, 0, -1, 0, 2);
        EyesTest.report(due, x, 4, 1, 0, 1, 0, 0, 1, 0, 1);
        EyesTest.report(due, x, 5, 3, 1, 1, 0, 0, 0, 0, 2);
        due.is("six", x.count(3), 6);
    }

    private static void listenersHear() {
        GhostCoast x = new GhostCoast();
        Due.shown(x, 3, 101, 203, 2);
        Due.shown(x, 3, 201, 303, 2);
        x.show(3, 301, 23);
        for (int hour = 1; hour <= 4; hour++) x.listen(hour);
        x.listen(3);
        x.listen(26);
        x.tick(2);
        due.is("ahead of its times", x.count(3), 0);
        x.tick(1);
        due.is("its first time", x.count(3), 1);
        x.tick(1);
        due.is("two listeners, two nets", x.count(3), 5);
        EyesTest.report(due, x, 1, 1, 1, 1, 3, 3, 0, 0, 1);
        EyesTest.report(due, x, 2, 1, 2, 1, 3, 3, 1, 0, 1);
        EyesTest.report(due, x, 3, 1, 1, 1, 3, 3, 0, 0, 1);
        x.tick(1);
        due.is("behind its times", x.count(3), 5);
        x.tick(22);
        due.is("at its time on another day", x.count(3), 6);
    }

    private static void papersAreFound() {
        GhostCoast x = new GhostCoast();
        Due.shown(x, 5, 101, 402, 0);
        Due.shown(x, 5, 201, 100, 0);
        x.show(5, 301, 0);
        x.tick(1);
        due.is("found at once", x.count(3), 1);
        EyesTest.report(due, x, 0, 3, 2, 1, 0, 0, 1, 0, 1);
        due.is("it stands no more", x.of(1, 3), 0);
        x.tick(1);
        due.is("not yet", x.count(3), 1);
        Due.text(x, "bar paper if hour<4", 0, 0);
        x.tick(2);
        due.is("due, but not shown", x.count(3), 1);
        due.is("it stands on", x.of(0, 3), 1);
        x.tick(1);
        due.is("found as soon as it is shown", x.count(3), 2);
        EyesTest.report(due, x, 1, 3, 1, 1, 4, 4, 0, 0, 4);
        x.tick(5);
        due.is("found once", x.count(3), 2);
    }

    private static void unitsMarch() {
        GhostCoast x = new GhostCoast();
        x.unit(1, 1);
        x.road(1, 2, 1);
        x.story(0, 1);
        x.story(1, 2);
        x.move(0, 0);
        x.flight(0, 10, 0);
        x.flight(0, 20, 0);
        x.flight(1, 20, 0);
        x.tick(1);
        due.is("it is there behind the flights", x.count(3), 0);
        due.is("there", x.where(0, 0), 2);
        x.tick(1);
        due.is("seen where it came to", x.count(3), 1);
        due.is("its story", x.report(0, 1), 1);
    }

    /** Twenty shows, of which every third one doesn't stand: shows, nets and papers in turns. */
    private static void eachShowIsAsked() {
        for (int turn = 0; turn < 3; turn++) {
            GhostCoast x = new GhostCoast();
            x.purse(900, 0);
            int[] kinds = {0, 3, 5};
            int[] sources = {0, 1, 3};
            for (int i = 0; i < 20; i++) {
                x.show(kinds[(i + turn) % 3], 101, 0);
                x.hands(i, 2);
                if (i % 7 != 0) x.stand(i, true);
            }
            x.flight(0, 19, 0);
            x.listen(0);
            x.tick(1);
            int report = 0;
            for (int part = 0; part < 3; part++) {
                for (int i = 0; i < 20; i++) {
                    if ((i + turn) % 3 != part || i % 7 == 0) continue;
                    due.is("source of " + report, x.report(report, 0), sources[part]);
                    due.is("show of " + report, x.report(report, 5), i);
                    report++;
                }
            }
            due.is("reports", x.count(3), report);
        }
    }

    /** What counts in the last hour of a day, not in the next one. */
    private static void likeliestOfTheBook() {
        GhostCoast x = new GhostCoast();
        Due.shown(x, 0, 101, 0, 0);
        x.flight(22, 10, 1);
        x.flight(23, 10, 1);
        x.tick(23);
        x.prisoner(2, true);
        x.tick(1);
        due.is("known", x.book(0, 4), 2);
        due.is("4 against 3, not against 9", x.book(0, 5), 2);
        due.is("in the next hour", x.likeliest(24), 1);
        GhostCoast y = new GhostCoast();
        y.fade(1);
        y.tick(23);
        y.prisoner(3, true);
        y.tick(25);
        due.is("24 hours behind it counts", y.book(1, 5), 3);
        due.is("in the next hour it doesn't", y.likeliest(48), 0);
    }

    /** All twelve, each on a road of its own length, but for every third one. */
    private static void eachUnitMarches() {
        GhostCoast x = new GhostCoast();
        for (int unit = 0; unit < 12; unit++) {
            x.unit(unit, 1);
            x.road(unit, 40 + unit, unit + 1);
            if (unit % 3 != 0) due.is("move", x.move(unit, unit), unit + 1);
        }
        for (int hour = 1; hour <= 12; hour++) {
            x.tick(1);
            for (int unit = 0; unit < 12; unit++) {
                boolean isThere = unit % 3 != 0 && hour > unit;
                boolean isGoing = unit % 3 != 0 && !isThere;
                due.is("cell of " + unit, x.where(unit, 0), isThere ? 40 + unit : unit);
                due.is("road of " + unit, x.where(unit, 2), isGoing ? unit : -1);
                due.is("to go of " + unit, x.where(unit, 3), isGoing ? unit + 1 - hour : 0);
            }
        }
    }

    /** What is closed is told by its own DAY and TIME; what is closed with its last hour is in its book. */
    private static void byDaysAndTimes() {
        GhostCoast x = new GhostCoast();
        Due.shown(x, 0, 101, 0, 0);
        Due.shown(x, 5, 202, 223, 0);
        Due.text(x, "bar show if day=1&hour=0", 1, 1);
        x.flight(23, 10, 0);
        x.flight(24, 10, 0);
        x.flight(25, 10, 1);
        x.tick(24);
        due.is("day 0", x.count(3), 2);
        EyesTest.report(due, x, 0, 0, 1, 1, 23, 23, 0, 0, 2);
        EyesTest.report(due, x, 1, 3, 2, 1, 23, 23, 1, 0, 2);
        due.is("known in the book", x.book(0, 4), 2);
        due.is("a paper found in the last hour stands no more", x.book(0, 3), 1);
        x.tick(1);
        due.is("day 1 at 0", x.count(3), 2);
        x.tick(1);
        due.is("day 1 at 1", x.count(3), 3);
        x.prisoner(3, true);
        x.prisoner(3, true);
        x.tick(21);
        x.flight(47, 10, 1);
        x.tick(1);
        due.is("what is known from the next hour on isn't in the book", x.book(1, 4), 5);
        due.is("the likeliest of the book", x.book(1, 5), 3);
        due.is("of day 0: like ones", x.book(0, 5), 1);
    }

    private static void noRoom() {
        GhostCoast x = new GhostCoast();
        Due.shown(x, 0, 101, 0, 0);
        Due.shown(x, 0, 201, 0, 0);
        Due.shown(x, 5, 301, 400, 0);
        for (int i = 0; i < 89; i++) x.prisoner(0, true);
        x.flight(0, 10, 0);
        due.is("tick", x.tick(1), 1);
        due.is("room for the first alone", x.count(3), 90);
        due.is("the first", x.report(89, 1), 1);
        due.is("a paper whose report has no room stands no more", x.of(2, 3), 0);
    }

    /** 90 reports: what units, listeners and papers would tell doesn't come; 89: the first alone. */
    private static void noRoomForAny() {
        for (int there = 89; there <= 90; there++) {
            GhostCoast x = new GhostCoast();
            x.unit(0, 1);
            x.unit(0, 1);
            Due.shown(x, 3, 101, 23, 2);
            Due.shown(x, 3, 201, 23, 2);
            for (int i = 0; i < there; i++) x.prisoner(3, true);
            x.flight(there == 89 ? 5 : 0, 0, 0);
            x.listen(0);
            x.listen(1);
            due.is("tick", x.tick(2), 2);
            due.is("full", x.count(3), 90);
            due.is("the last one is of story", x.report(89, 1), there == 89 ? 1 : 3);
            due.is("known", x.known(1943), 90);
            due.is("one more is refused", x.prisoner(0, true), Due.FULL);
        }
        GhostCoast y = new GhostCoast();
        y.unit(0, 1);
        for (int i = 0; i < 87; i++) y.prisoner(3, true);
        y.flight(0, 0, 48);
        y.tick(1);
        due.is("three of four stories", y.count(3), 90);
        for (int s = 0; s < 3; s++) due.is("story of a unit", y.report(87 + s, 1), s);
    }

    /** Coin that is just enough is paid, one less isn't; only what stands pays, shown or not. */
    private static void payingToTheLast() {
        int[] numbers = {0, 9, 9, 509, 0, 0, 0};
        int[] prices = {1, 2, 5, 5, 1, 0, 0};
        for (int kind = 0; kind < 7; kind++) {
            for (int less = 0; less <= 1; less++) {
                GhostCoast x = new GhostCoast();
                x.unit(0, 1);
                x.show(kind, 0, kind == 5 ? 99 : numbers[kind]);
                x.stand(0, true);
                x.purse(0, Math.max(0, prices[kind] - less));
                x.tick(24);
                boolean isPaid = less == 0 || prices[kind] == 0;
                due.is("kind " + kind + " stands", x.of(0, 3), isPaid ? 1 : 0);
                due.is("kind " + kind + " costs", x.of(0, 8), isPaid ? prices[kind] : 0);
                due.is("coin", x.count(9), isPaid ? 0 : prices[kind] - 1);
                due.is("coin in the book", x.book(0, 2), isPaid ? 0 : prices[kind] - 1);
                due.is("standing in the book", x.book(0, 3), isPaid ? 1 : 0);
            }
        }
        GhostCoast x = new GhostCoast();
        x.show(0, 0, 0);
        Due.shown(x, 1, 0, 0, 1);
        x.show(2, 0, 9);
        x.stand(2, true);
        x.show(0, 0, 0);
        x.stand(3, true);
        Due.text(x, "bar show if story=0&!hands=1", 0, 80);
        x.weather(1, 0);
        x.purse(0, 9000);
        x.tick(24);
        due.is("what doesn't stand pays nothing", x.of(0, 8), 0);
        due.is("it stands no more than before", x.of(0, 3), 0);
        due.is("what is broken pays", x.of(1, 8), 2);
        due.is("what has no hands pays", x.of(2, 8), 5);
        due.is("what is barred pays", x.of(3, 8), 1);
        due.is("coin", x.count(9), 9000 - 8);
        due.is("standing", x.book(0, 3), 3);
    }

    private static void paying() {
        GhostCoast x = new GhostCoast();
        x.show(2, 0, 9);
        x.show(1, 0, 9);
        x.show(3, 0, 102);
        x.show(4, 0, 0);
        x.show(0, 0, 0);
        for (int i = 0; i < 4; i++) x.stand(i, true);
        x.purse(0, 8);
        x.tick(23);
        due.is("not paid yet", x.count(9), 8);
        x.tick(1);
        // 5 and 2 are paid, 2 can't be, 1 is.
        due.is("coin", x.count(9), 0);
        int[] costs = {5, 2, 0, 1, 0};
        int[] stands = {1, 1, 0, 1, 0};
        for (int i = 0; i < 5; i++) {
            due.is("cost of " + i, x.of(i, 8), costs[i]);
            due.is("stands " + i, x.of(i, 3), stands[i]);
        }
        x.purse(0, 7);
        x.show(5, 0, 99);
        x.stand(5, true);
        x.tick(24);
        due.is("cost together", x.of(0, 8), 10);
        due.is("cost together", x.of(1, 8), 4);
        due.is("not any more", x.of(3, 3), 0);
        due.is("cost of nothing", x.of(5, 8), 0);
        due.is("a price of nothing is paid", x.of(5, 3), 1);
    }

    private static void book() {
        GhostCoast x = new GhostCoast();
        Due.shown(x, 2, 100, 909, 7);
        Due.shown(x, 1, 200, 909, 3);
        x.hands(0, 8);
        x.purse(600, 6);
        x.prisoner(1, true);
        x.flight(23, 9, 0);
        x.flight(22, 9, 2);
        x.tick(23);
        due.is("not closed", x.book(0, 0), Due.NONE);
        x.strike(0);
        x.tick(1);
        due.is("pool", x.book(0, 0), 600);
        due.is("hands", x.book(0, 1), 11);
        due.is("coin", x.book(0, 2), 1);
        due.is("standing", x.book(0, 3), 1);
        // A prisoner that is struck, and what the flight of hour 23 saw: both shows.
        due.is("known", x.book(0, 4), 3);
        due.is("likeliest", x.book(0, 5), 1);
        due.is("what -1", x.book(0, -1), Due.BEYOND);
        due.is("what 6", x.book(0, 6), Due.BEYOND);
        due.is("day -1", x.book(-1, 0), Due.BEYOND);
        due.is("day 81", x.book(81, 0), Due.BEYOND);
        due.is("day 1", x.book(1, 0), Due.NONE);
        due.is("day 80", x.book(80, 5), Due.NONE);
        x.purse(1, 0);
        x.tick(24);
        due.is("the book stays", x.book(0, 0), 600);
        due.is("pool of the next", x.book(1, 0), 1);
        due.is("none stands", x.book(1, 3), 0);
        due.is("known", x.book(1, 4), 5);
    }

    private static void check() {
        GhostCoast x = new GhostCoast();
        x.purse(200, 300);
        due.is("day -1", x.check(-1, 0), Due.BEYOND);
        due.is("day 81", x.check(81, 0), Due.BEYOND);
        due.is("sheet -1", x.check(0, -1), Due.BEYOND);
        due.is("sheet 4", x.check(0, 4), Due.BEYOND);
        due.is("not closed, missing", x.check(0, 0), Due.NONE);
        x.tick(24);
        due.is("missing", x.check(0, 0), Due.MISSING);
        x.sheet(0, 32, 5);
        due.is("five", x.check(0, 0), Due.SIZE);
        x.sheet(0, 32, 7);
        due.is("seven", x.check(0, 0), Due.SIZE);
        x.sheet(0, 32, 6);
        due.is("none is as it was", x.check(0, 0), 0);
        x.write(0, 0, 200);
        due.is("two", x.check(0, 0), 2);
        x.write(0, 2, 999);
        due.is("clouded is as any", x.check(0, 0), 6);
        x.write(0, 5, 1);
        due.is("five of six", x.check(0, 0), 5);
        x.sheet(1, 8, 6);
        x.write(1, 0, 200);
        due.is("bytes as they are read", x.check(0, 1), 0);
        x.purse(56, 1);
        x.tick(24);
        x.write(1, 0, 56);
        x.write(1, 2, 257);
        due.is("bytes", x.check(1, 1), 6);
        due.is("of another day", x.check(0, 1), 0);
    }

    private static void known() {
        GhostCoast x = new GhostCoast();
        x.prisoner(0, true);
        Due.shown(x, 0, 101, 0, 0);
        x.flight(2, 10, 10);
        x.tick(4);
        x.prisoner(0, true);
        x.strike(0);
        due.is("known at 0", x.known(0), 1);
        due.is("known at 3", x.known(3), 1);
        due.is("known at 4", x.known(4), 2);
        due.is("known at 11", x.known(11), 2);
        due.is("known at 12", x.known(12), 3);
        due.is("known at 1943", x.known(1943), 3);
        due.is("known -1", x.known(-1), Due.BEYOND);
        due.is("known 1944", x.known(1944), Due.BEYOND);
    }
}
