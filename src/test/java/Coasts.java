/** Coasts that tests try their calls on, each made anew by the same calls, some 310 at most. */
enum Coasts {
    /** As it is made. */
    NEW,
    /** Three of most things, none of which keeps a call from being taken: hour 25, so that day 0 is closed. */
    PLAIN,
    /** Some of everything, in all its states: hour 30. */
    RICH,
    /** Each list and THE TAPE are full. */
    CROWDED,
    /** The open HOUR is the last one; there is one show, and no image is kept. */
    ENDED,
    /** Flights are over both ends of both roads, so that there is no still hour. */
    WATCHED,
    /** A show with 5 HANDS, and a POOL of 10. */
    SHORT,
    /** A show with 5 HANDS, and a POOL of 898. */
    BRIMMING;

    GhostCoast make() {
        GhostCoast x = new GhostCoast();
        switch (this) {
            case PLAIN: plain(x); break;
            case RICH: rich(x); break;
            case CROWDED: crowded(x); break;
            case ENDED: ended(x); break;
            case WATCHED: watched(x); break;
            case SHORT: staffed(x, 10); break;
            case BRIMMING: staffed(x, 898); break;
            default: break;
        }
        return x;
    }

    /** Shows 0 to 2 are broken dummies, 3 to 5 voices, 6 a quiet one of the last unit that doesn't stand. */
    private static void plain(GhostCoast x) {
        x.purse(500, 5000);
        for (int i = 0; i < 3; i++) x.unit(0, 1);
        for (int i = 0; i < 3; i++) x.road(i == 1 ? 9 : 0, i == 1 ? 0 : 9, 2);
        for (int i = 0; i < 3; i++) x.show(1, 100 * i + i, 900);
        for (int i = 0; i < 3; i++) x.show(4, 100 * i + i, 202);
        x.show(6, 300, 200);
        for (int i = 0; i < 3; i++) x.hands(i, 5);
        for (int i = 0; i < 6; i++) x.stand(i, true);
        x.weather(1, 0);
        x.tick(1);
        x.weather(0, 0);
        x.tick(24);
        for (int i = 0; i < 3; i++) x.prisoner(1, true);
        for (int i = 0; i < 3; i++) Due.text(x, "may show", 0, 80);
        for (int s = 0; s < 4; s++) x.sheet(s, 32, 6);
        x.image();
    }

    /**
     * Units: 0 free, 1 on road 0, 2 held by the quiet show 6. Shows 0 to 6 are of kinds 0 to 6 and shown; 7 a
     * voice that has no talks, 8 one that doesn't stand, either, 9 a broken dummy with no hands, 10 a whole one with none,
     * 11 and 12 nets that tell unlike. Reports: 0 struck, 1 a voice's, 4 not known yet. Texts: 0 stands, 1 is void.
     * Sheets: 0 six floats, 1 two bytes, 2 four floats, 3 missing. THE TAPE holds a text that isn't ended.
     */
    private static void rich(GhostCoast x) {
        x.purse(900, 5000);
        x.cell(5, 1);
        x.road(0, 1, 30);
        x.road(2, 3, 1);
        for (int i = 0; i < 3; i++) x.unit(0, 10 + i);
        for (int s = 0; s < 4; s++) x.story(s, s == 1 ? 0 : 7);
        int[] numbers = {0, 404, 507, 1020, 309, 299, 200};
        for (int kind = 0; kind < 7; kind++) x.show(kind, 100 * (kind % 4) + 4, numbers[kind]);
        x.show(4, 206, 401);
        x.show(4, 106, 400);
        x.show(1, 300, 900);
        x.show(1, 308, 909);
        x.show(3, 101, 1212);
        x.show(3, 201, 1212);
        int[] hands = {0, 1, 5, 2, 0, 1, 0, 0, 0, 1, 0, 2, 3};
        for (int i = 0; i < hands.length; i++) x.hands(i, hands[i]);
        for (int i = 0; i < hands.length; i++) if (i != 8) x.stand(i, true);
        Due.text(x, "bar quiet if day=9;may camp", 0, 80);
        Due.text(x, "must show", 0, 80);
        x.drop(1);
        x.weather(2, 1);
        x.tick(1);
        x.prisoner(2, false);
        x.strike(0);
        x.tell(4);
        x.tell(7);
        x.mend(9);
        x.tick(28);
        x.prisoner(1, true);
        x.flight(29, 46, 20);
        x.flight(35, 3, 4);
        x.listen(36);
        x.move(1, 0);
        x.tick(1);
        x.troops(77);
        x.shift();
        x.fade(5);
        x.sheet(0, 32, 6);
        x.sheet(1, 8, 2);
        x.sheet(2, 32, 4);
        x.write(0, 0, 999);
        x.write(0, 2, 77);
        x.write(1, 1, 200);
        x.write(2, 0, 1);
        x.image();
        x.prisoner(3, true);
        x.purse(100, 4000);
        Due.feed(x, "bar voice if ");
    }

    /** Unit 0 is free, unit 1 on road 0; road 1 leads from elsewhere. */
    private static void watched(GhostCoast x) {
        x.unit(0, 1);
        x.unit(0, 1);
        x.road(0, 1, 30);
        x.road(2, 3, 30);
        for (int hour = 29; hour < 240; hour += 30) {
            x.flight(hour, 5, 0);
            x.flight(hour, 35, 0);
        }
        x.move(1, 0);
    }

    private static void staffed(GhostCoast x, int pool) {
        x.show(0, 0, 0);
        x.purse(5, 0);
        x.hands(0, 5);
        x.purse(pool, 0);
    }

    /** Shows 4, 11 and 18 are voices; 18 has no talks, 11 doesn't stand. */
    private static void crowded(GhostCoast x) {
        x.purse(900, 9000);
        for (int i = 0; i < 40; i++) x.road(i, 95 - i, 1 + i % 30);
        for (int i = 0; i < 12; i++) x.unit(i, 90 - i);
        for (int i = 0; i < 20; i++) x.show(i % 7, 100 * (i % 4) + 1, 100 + i % 9);
        for (int i = 0; i < 20; i += 2) x.stand(i, true);
        for (int i = 0; i < 8; i++) Due.text(x, "may net", i, 80);
        for (int i = 0; i < 30; i++) x.flight(3 + i, 10 + i % 10, i);
        for (int i = 0; i < 30; i++) x.listen(3 + i);
        x.tick(2);
        for (int i = 0; i < 90; i++) x.prisoner(i % 4, i % 5 != 0);
        for (int i = 0; i < 30; i++) x.feed(0x6D757374 + i, 4);
        for (int s = 0; s < 4; s++) x.sheet(s, 8, 20);
        x.write(0, 19, 1);
        x.write(2, 0, 1);
        x.write(2, 19, 3);
        x.image();
    }

    private static void ended(GhostCoast x) {
        x.purse(100, 3000);
        x.show(0, 101, 0);
        x.unit(2, 7);
        x.road(2, 4, 3);
        x.stand(0, true);
        for (int i = 0; i < 22; i++) x.tick(88);
        x.tick(7);
        x.prisoner(1, true);
        x.flight(1943, 15, 48);
        x.listen(1943);
        x.sheet(0, 32, 6);
        Due.feed(x, "may net");
    }
}
