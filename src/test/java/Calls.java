/** The calls of the public face by their places in the document's list, 0 cell() to 55 status(). */
final class Calls {
    static final String[] NAMES = {"cell", "road", "unit", "move", "where", "still", "weather", "purse", "story",
        "show", "as", "of", "stand", "hands", "mend", "flight", "listen", "tell", "prisoner", "film", "report",
        "strike", "fade", "weight", "likely", "likeliest", "counted", "troops", "shift", "held", "feed", "text",
        "wipe", "drop", "must", "may", "why", "agree", "slip", "carry", "plan", "judge", "last", "tick", "book",
        "check", "known", "sheet", "write", "read", "copy", "image", "undo", "tear", "count", "status"};

    static int act(String name) {
        for (int i = 0; i < NAMES.length; i++) if (NAMES[i].equals(name)) return i;
        throw new IllegalArgumentException(name);
    }

    static long call(GhostCoast x, int act, int[] v) {
        switch (act) {
            case 0: return x.cell(v[0], v[1]);
            case 1: return x.road(v[0], v[1], v[2]);
            case 2: return x.unit(v[0], v[1]);
            case 3: return x.move(v[0], v[1]);
            case 4: return x.where(v[0], v[1]);
            case 5: return x.still(v[0], v[1]);
            case 6: return x.weather(v[0], v[1]);
            case 7: return x.purse(v[0], v[1]);
            case 8: return x.story(v[0], v[1]);
            case 9: return x.show(v[0], v[1], v[2]);
            case 10: return x.as(v[0], v[1]);
            case 11: return x.of(v[0], v[1]);
            case 12: return x.stand(v[0], v[1] != 0);
            case 13: return x.hands(v[0], v[1]);
            case 14: return x.mend(v[0]);
            case 15: return x.flight(v[0], v[1], v[2]);
            case 16: return x.listen(v[0]);
            case 17: return x.tell(v[0]);
            case 18: return x.prisoner(v[0], v[1] != 0);
            case 19: return x.film(v[0], v[1]);
            case 20: return x.report(v[0], v[1]);
            case 21: return x.strike(v[0]);
            case 22: return x.fade(v[0]);
            case 23: return x.weight(v[0]);
            case 24: return x.likely(v[0], v[1] != 0);
            case 25: return x.likeliest(v[0]);
            case 26: return x.counted(v[0]);
            case 27: return x.troops(v[0]);
            case 28: return x.shift();
            case 29: return x.held(v[0]);
            case 30: return x.feed(v[0], v[1]);
            case 31: return x.text(v[0], v[1]);
            case 32: return x.wipe();
            case 33: return x.drop(v[0]);
            case 34: return x.must(v[0]);
            case 35: return x.may(v[0]);
            case 36: return x.why(v[0]);
            case 37: return x.agree(v[0], v[1]);
            case 38: return x.slip(v[0]);
            case 39: return x.carry(v[0]);
            case 40: return x.plan(v[0], v[1], v[2], v[3]);
            case 41: return x.judge(v[0], v[1], v[2] != 0);
            case 42: return x.last(v[0], v[1]);
            case 43: return x.tick(v[0]);
            case 44: return x.book(v[0], v[1]);
            case 45: return x.check(v[0], v[1]);
            case 46: return x.known(v[0]);
            case 47: return x.sheet(v[0], v[1], v[2]);
            case 48: return x.write(v[0], v[1], v[2]);
            case 49: return x.read(v[0], v[1]);
            case 50: return x.copy(v[0], v[1], v[2], v[3], v[4]);
            case 51: return x.image();
            case 52: return x.undo();
            case 53: return x.tear();
            case 54: return x.count(v[0]);
            case 55: return x.status(v[0]);
            default: throw new IllegalArgumentException("no such act");
        }
    }
}
