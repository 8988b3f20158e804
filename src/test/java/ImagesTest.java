/** Promises 53 to 57: image, undo, tear, count, status. */
public final class ImagesTest {
    private static final Due due = new Due();

    public static void main(String[] args) {
        imageAndUndo();
        imageStays();
        wholeAgain();
        standingSince();
        everythingComesBack();
        tear();
        count();
        status();
        due.end();
    }

    private static void imageAndUndo() {
        GhostCoast x = new GhostCoast();
        due.is("undo of nothing", x.undo(), Due.NONE);
        x.tick(5);
        due.is("image", x.image(), 1);
        x.tick(5);
        due.is("undo", x.undo(), 5);
        due.is("the open hour", x.count(7), 5);
        x.sheet(0, 8, 2);
        x.feed(7, 1);
        due.is("undo again", x.undo(), 5);
        due.is("sheets stay", x.read(0, 1), 0);
        due.is("the tape stays", x.count(12), 1);
    }

    private static void imageStays() {
        GhostCoast x = new GhostCoast();
        x.image();
        x.prisoner(0, true);
        x.undo();
        x.prisoner(1, true);
        x.prisoner(1, true);
        due.is("undo", x.undo(), 0);
        due.is("reports", x.count(3), 0);
        x.prisoner(2, false);
        x.image();
        x.strike(0);
        x.undo();
        due.is("the latest image", x.count(3), 1);
        due.is("not struck in it", x.report(0, 6), 0);
        due.is("its story", x.report(0, 1), 2);
    }

    /** What broke since the image is whole, and what was broken in it is broken. */
    private static void wholeAgain() {
        GhostCoast x = new GhostCoast();
        Due.shown(x, 1, 0, 0, 2);
        x.image();
        x.weather(1, 0);
        x.tick(1);
        due.is("broken", x.of(0, 4), 1);
        x.undo();
        due.is("whole", x.of(0, 4), 0);
        x.tick(1);
        due.is("no wind", x.of(0, 4), 0);
        x.weather(9, 0);
        x.tick(1);
        x.image();
        due.is("mended", x.mend(0), 1);
        x.undo();
        due.is("broken as it was", x.of(0, 4), 1);
        due.is("with the hand that was lost", x.of(0, 5), 2);
    }

    /** A paper stands since the hour that the image tells. */
    private static void standingSince() {
        GhostCoast x = new GhostCoast();
        x.show(5, 0, 103);
        x.stand(0, true);
        x.tick(2);
        x.image();
        x.stand(0, false);
        x.stand(0, true);
        x.undo();
        x.tick(1);
        due.is("not yet", x.count(3), 0);
        x.tick(1);
        due.is("3 hours behind", x.count(3), 1);
    }

    /** A coast with something of everything; hour 30. */
    private static GhostCoast rich() {
        GhostCoast x = new GhostCoast();
        x.cell(1, 2);
        x.road(0, 1, 30);
        x.unit(0, 5);
        x.weather(0, 3);
        x.story(1, 8);
        Due.shown(x, 1, 100, 304, 2);
        Due.shown(x, 4, 202, 405, 0);
        Due.shown(x, 5, 303, 360, 1);
        x.flight(0, 5, 3);
        x.flight(40, 5, 3);
        x.listen(50);
        x.tell(1);
        x.fade(4);
        x.troops(33);
        x.shift();
        Due.text(x, "must show;bar camp", 0, 50);
        x.tick(30);
        x.purse(300, 400);
        x.move(0, 0);
        return x;
    }

    /** Answers that tell of every part that an image keeps. */
    private static long[] answers(GhostCoast x) {
        long[] all = new long[80];
        int n = 0;
        for (int what = 0; what <= 11; what++) all[n++] = x.count(what);
        all[n++] = x.count(13);
        all[n++] = x.count(14);
        for (int what = 0; what <= 3; what++) all[n++] = x.where(0, what);
        for (int show = 0; show < 3; show++) {
            for (int what = 0; what <= 9; what++) all[n++] = x.of(show, what);
            all[n++] = x.must(show);
        }
        all[n++] = x.of(1, 12);
        all[n++] = x.of(1, 13);
        for (int what = 0; what <= 7; what++) all[n++] = x.report(0, what);
        for (int s = 0; s < 4; s++) all[n++] = x.held(s);
        for (int s = 0; s < 4; s++) all[n++] = x.weight(s);
        for (int what = 0; what < 6; what++) all[n++] = x.book(0, what);
        all[n++] = x.known(1943);
        all[n++] = x.why(0);
        return all;
    }

    private static void everythingComesBack() {
        GhostCoast x = rich();
        long[] were = answers(x);
        x.image();
        for (int round = 0; round < 2; round++) {
            x.cell(1, 3);
            x.road(3, 4, 5);
            x.unit(9, 9);
            x.weather(9, 9);
            x.story(1, 0);
            x.strike(0);
            x.tell(1);
            x.stand(0, false);
            x.hands(2, 3);
            x.show(0, 0, 0);
            x.flight(60, 5, 3);
            x.listen(60);
            x.fade(1);
            x.troops(500);
            x.prisoner(3, true);
            x.shift();
            x.drop(0);
            Due.text(x, "bar show", 0, 80);
            x.purse(1, 2);
            x.tick(99);
            due.is("undo", x.undo(), 30);
            long[] are = answers(x);
            for (int i = 0; i < were.length; i++) due.is("answer " + i, are[i], were[i]);
        }
        // Wind 9 is taken back, too: the dummy isn't broken; so is the cloud, for the flight of hour 40 sees.
        due.is("ground", x.cell(1, 0), 2);
        due.is("place", x.story(1, 0), 8);
        x.stand(0, true);
        int reports = x.count(3);
        x.tick(11);
        due.is("not broken", x.of(0, 4), 0);
        due.is("a flight that was there", x.count(3), reports + 1);
        due.is("a new show is a new one", x.show(1, 0, 0), 3);
        due.is("it doesn't stand", x.of(3, 3), 0);
        due.is("it has no hands", x.of(3, 5), 0);
    }

    private static void tear() {
        GhostCoast x = new GhostCoast();
        due.is("nothing", x.tear(), 0);
        x.image();
        x.image();
        due.is("something", x.tear(), 1);
        due.is("nothing again", x.tear(), 0);
        due.is("undo", x.undo(), Due.NONE);
        x.tick(2);
        x.image();
        due.is("kept anew", x.undo(), 2);
    }

    private static void count() {
        GhostCoast x = new GhostCoast();
        x.road(0, 1, 1);
        for (int i = 0; i < 2; i++) x.unit(0, 1);
        for (int i = 0; i < 3; i++) x.show(4, 100 * i, 100);
        for (int i = 0; i < 4; i++) x.prisoner(0, true);
        for (int i = 0; i < 5; i++) Due.text(x, "may net", 0, 0);
        for (int i = 0; i < 6; i++) x.flight(1, 900, 0);
        for (int i = 0; i < 7; i++) x.listen(1);
        x.tick(8);
        x.purse(9, 10);
        for (int i = 0; i < 3; i++) x.stand(i, true);
        x.stand(1, false);
        x.feed(0, 3);
        x.fade(11);
        x.troops(12);
        int[] want = {1, 2, 3, 4, 5, 6, 7, 8, 9, 10, 2, 1, 3, 11, 12};
        for (int what = 0; what < want.length; what++) due.is("count(" + what + ")", x.count(what), want[what]);
        due.is("count(-1)", x.count(-1), Due.BEYOND);
        due.is("count(15)", x.count(15), Due.BEYOND);
    }

    private static void status() {
        GhostCoast x = new GhostCoast();
        x.image();
        x.cell(-1, 0);
        x.weight(9);
        x.tick(99);
        for (int i = 0; i < 13; i++) x.unit(0, 1);
        x.show(0, 0, 0);
        x.tell(0);
        x.why(0);
        x.mend(0);
        x.read(0, 0);
        x.hands(0, 1);
        x.text(0, 0);
        int[] want = {2, 1, 1, 1, 1, 1, 1};
        for (int which = 0; which < 7; which++) due.is("status(" + which + ")", x.status(which), want[which]);
        due.is("all", x.status(-1), 8);
        x.undo();
        due.is("those that undo took back, too", x.status(-1), 8);
        due.is("another one", x.status(7), Due.BEYOND);
        due.is("it is told of then", x.status(0), 3);
        due.is("another one", x.status(-2), Due.BEYOND);
        due.is("all", x.status(-1), 10);
        x.judge(9, 0, true);
        x.likely(9, true);
        due.is("of longs, too", x.status(0), 6);
    }
}
