/** Promises 17 to 21: flight, listen, tell, prisoner, film. */
public final class EyesTest {
    private static final Due due = new Due();

    public static void main(String[] args) {
        flight();
        listen();
        tell();
        tellInOrder();
        prisoner();
        film();
        filmOfAll();
        filmWithoutRoom();
        thirtyOfEach();
        due.end();
    }

    /** A report as its numbers: source, story, for, got, known, show, struck, credit. */
    static void report(Due due, GhostCoast x, int report, int... want) {
        for (int what = 0; what < want.length; what++) {
            due.is("report(" + report + ", " + what + ")", x.report(report, what), want[what]);
        }
    }

    private static void flight() {
        GhostCoast x = new GhostCoast();
        due.is("flight", x.flight(0, 0, 0), 0);
        due.is("flight", x.flight(1943, 959, 48), 1);
        due.is("at -1", x.flight(0, -1, 0), Due.BEYOND);
        due.is("at 960", x.flight(0, 960, 0), Due.BEYOND);
        due.is("hour -1", x.flight(-1, 0, 0), Due.BEYOND);
        due.is("hour 1944", x.flight(1944, 0, 0), Due.BEYOND);
        due.is("late -1", x.flight(0, 0, -1), Due.BEYOND);
        due.is("late 49", x.flight(0, 0, 49), Due.BEYOND);
        x.tick(2);
        due.is("closed", x.flight(1, 0, 0), Due.STATE);
        due.is("open", x.flight(2, 0, 0), 2);
        for (int i = 3; i < 30; i++) due.is("flight", x.flight(2, 0, 0), i);
        due.is("full", x.flight(2, 0, 0), Due.FULL);
        due.is("full and closed", x.flight(1, 0, 0), Due.STATE);
        due.is("full, closed and beyond", x.flight(1, 0, 49), Due.BEYOND);
        due.is("flights", x.count(5), 30);
    }

    private static void listen() {
        GhostCoast x = new GhostCoast();
        due.is("listen", x.listen(0), 1);
        due.is("listen", x.listen(1943), 2);
        due.is("hour -1", x.listen(-1), Due.BEYOND);
        due.is("hour 1944", x.listen(1944), Due.BEYOND);
        x.tick(3);
        due.is("closed", x.listen(2), Due.STATE);
        for (int i = 3; i <= 30; i++) due.is("listen", x.listen(3), i);
        due.is("full", x.listen(3), Due.FULL);
        due.is("full and closed", x.listen(2), Due.STATE);
        due.is("listeners", x.count(6), 30);
    }

    private static void tell() {
        GhostCoast x = new GhostCoast();
        Due.shown(x, 4, 205, 302, 0);
        x.tick(5);
        due.is("tell", x.tell(0), 0);
        report(due, x, 0, 2, 2, 1, 5, 5, 0, 0, 3);
        due.is("talks", x.of(0, 13), 1);
        due.is("trust", x.of(0, 12), 3);
        due.is("tell", x.tell(0), 1);
        due.is("no talks", x.tell(0), Due.NONE);
        due.is("talks", x.of(0, 13), 0);
        due.is("tell -1", x.tell(-1), Due.BEYOND);
        due.is("tell 1", x.tell(1), Due.BEYOND);
    }

    private static void tellInOrder() {
        GhostCoast x = new GhostCoast();
        x.show(5, 0, 400);
        x.show(4, 0, 400);
        x.show(4, 0, 401);
        due.is("no voice", x.tell(0), Due.KIND);
        due.is("not shown, no talks", x.tell(1), Due.STATE);
        x.stand(1, true);
        x.stand(2, true);
        x.show(4, 0, 402);
        x.stand(3, true);
        for (int i = 0; i < 89; i++) x.prisoner(0, true);
        due.is("the last room", x.tell(3), 89);
        due.is("no talks, full", x.tell(1), Due.NONE);
        due.is("full", x.tell(2), Due.FULL);
        due.is("talks as they were", x.of(2, 13), 1);
    }

    private static void prisoner() {
        GhostCoast x = new GhostCoast();
        x.tick(4);
        due.is("prisoner", x.prisoner(3, true), 0);
        due.is("prisoner", x.prisoner(0, false), 1);
        report(due, x, 0, 4, 3, 1, 4, 4, -1, 0, 3);
        report(due, x, 1, 4, 0, 0, 4, 4, -1, 0, 3);
        due.is("story -1", x.prisoner(-1, true), Due.BEYOND);
        due.is("story 4", x.prisoner(4, true), Due.BEYOND);
        for (int i = 2; i < 90; i++) due.is("prisoner", x.prisoner(1, true), i);
        due.is("full", x.prisoner(1, true), Due.FULL);
        due.is("full and beyond", x.prisoner(4, true), Due.BEYOND);
        due.is("reports", x.count(3), 90);
    }

    private static void film() {
        GhostCoast x = new GhostCoast();
        x.show(0, 100, 0);
        x.show(4, 200, 0);
        x.show(5, 300, 0);
        x.tick(9);
        due.is("film of a sheet that is missing", x.film(0, 0), Due.MISSING);
        due.is("sheet -1", x.film(-1, 0), Due.BEYOND);
        due.is("sheet 4", x.film(4, 0), Due.BEYOND);
        due.is("hour -1, missing", x.film(0, -1), Due.BEYOND);
        due.is("hour 10, missing", x.film(0, 10), Due.BEYOND);
        x.sheet(0, 32, 3);
        x.write(0, 0, 2);
        x.write(0, 1, 999);
        x.write(0, 2, 1);
        due.is("film", x.film(0, 4), 2);
        report(due, x, 0, 5, 1, 0, 4, 9, 0, 0, 2);
        report(due, x, 1, 5, 3, 1, 4, 9, 2, 0, 2);
        due.is("film of the open hour", x.film(0, 9), 2);
        x.sheet(1, 8, 2);
        due.is("film of noughts", x.film(1, 0), 0);
        x.write(1, 1, 999);
        due.is("film of another number: 999 in bytes", x.film(1, 0), Due.BEYOND);
        x.write(1, 1, 3);
        due.is("film of 3", x.film(1, 0), Due.BEYOND);
        x.write(1, 1, -1);
        due.is("film of -1", x.film(1, 0), Due.BEYOND);
        x.write(1, 1, 257);
        due.is("film of bytes", x.film(1, 0), 1);
        x.sheet(2, 8, 4);
        due.is("more numbers than shows", x.film(2, 0), Due.BEYOND);
        x.sheet(2, 8, 0);
        due.is("no numbers", x.film(2, 0), 0);
        due.is("reports", x.count(3), 5);
    }

    private static void filmOfAll() {
        GhostCoast x = new GhostCoast();
        for (int i = 0; i < 20; i++) x.show(0, 100 * (i % 4), 0);
        x.sheet(3, 32, 20);
        for (int i = 0; i < 20; i++) x.write(3, i, i % 2 + 1);
        due.is("film of twenty", x.film(3, 0), 20);
        for (int i = 0; i < 20; i++) report(due, x, i, 5, i % 4, 1 - i % 2, 0, 0, i, 0, 2);
    }

    /** As many flights and listeners as there can be, all of one hour: each makes its report. */
    private static void thirtyOfEach() {
        GhostCoast x = new GhostCoast();
        Due.shown(x, 0, 195, 0, 0);
        Due.shown(x, 3, 295, 505, 2);
        x.unit(95, 1);
        x.story(3, 95);
        for (int i = 0; i < 30; i++) due.is("flight", x.flight(5, 959, i + 19), i);
        for (int i = 0; i < 30; i++) due.is("listen", x.listen(5), i + 1);
        x.tick(6);
        due.is("90", x.count(3), 90);
        for (int i : new int[] {0, 1, 14, 28, 29}) {
            report(due, x, 2 * i, 0, 1, 1, 5, 24 + i, 0, 0, 2);
            report(due, x, 60 + i, 1, 2, 1, 5, 5, 1, 0, 1);
        }
    }

    private static void filmWithoutRoom() {
        GhostCoast x = new GhostCoast();
        x.show(0, 0, 0);
        x.show(0, 0, 0);
        for (int i = 0; i < 89; i++) x.prisoner(0, true);
        x.sheet(0, 8, 2);
        x.write(0, 0, 1);
        x.write(0, 1, 2);
        due.is("no room for both", x.film(0, 0), Due.FULL);
        due.is("none came", x.count(3), 89);
        x.write(0, 1, 5);
        due.is("wrong and no room", x.film(0, 0), Due.BEYOND);
        x.write(0, 1, 0);
        due.is("room for one", x.film(0, 0), 1);
        x.write(0, 0, 0);
        due.is("no room is asked for none", x.film(0, 0), 0);
    }
}
