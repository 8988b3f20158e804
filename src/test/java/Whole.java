import java.util.ArrayList;
import java.util.HashMap;
import java.util.List;
import java.util.Map;

/**
 * All that an object tells, in parts, each short enough for the calls that an object is used for. Two
 * objects that tell all parts alike are alike, so that a call between them changed nothing.
 */
final class Whole {
    static final int PARTS = 19;
    /** An object is used for at most 512 calls, and a coast is made by some 310. */
    private static final int MOST = 200;

    private final GhostCoast x;
    private final List<Long> told = new ArrayList<>();

    private Whole(GhostCoast x) {
        this.x = x;
    }

    static List<Long> of(GhostCoast x, int part) {
        Whole whole = new Whole(x);
        switch (part) {
            case 0: whole.counts(); break;
            case 1: whole.shows(0, 10); break;
            case 2: whole.shows(10, 20); break;
            case 3: whole.texts(); break;
            case 4: whole.tape(); break;
            case 5: whole.sheets(); break;
            case 6: whole.cells(); break;
            case 7: whole.ahead(); break;
            case 8: whole.image(); break;
            case 9: whole.plans(); break;
            case 10: whole.ways(); break;
            case 11: whole.room(); break;
            case 12: whole.eyes(); break;
            default: whole.reports(15 * (part - 13), 15 * (part - 12));
        }
        if (whole.told.size() > MOST) throw new IllegalStateException("too many calls");
        return whole.told;
    }

    private static final Map<String, List<Long>> ofNew = new HashMap<>();

    /** What a coast on which nothing more was tried tells. */
    static List<Long> ofNew(Coasts coast, int part) {
        return ofNew.computeIfAbsent(coast + " " + part, key -> of(coast.make(), part));
    }

    private void add(long answer) {
        told.add(answer);
    }

    private void counts() {
        for (int what = 0; what <= 14; what++) add(x.count(what));
        for (int s = 0; s < 4; s++) {
            add(x.held(s));
            add(x.weight(s));
            add(x.likely(s, true));
            add(x.likely(s, false));
        }
        for (int hour = 0; hour < 1944; hour += hour < 40 ? 4 : 400) {
            add(x.likeliest(hour));
            add(x.counted(hour));
            add(x.known(hour));
        }
        for (int day = 0; day < 2; day++) for (int what = 0; what < 6; what++) add(x.book(day, what));
        for (int what = 0; what < 6; what++) add(x.book(79, what));
        for (int i = 0; i < 6; i++) for (int what = 0; what < 3; what++) add(x.agree(i, what));
    }

    private void shows(int from, int to) {
        for (int show = from; show < to; show++) for (int what = 0; what <= 13; what++) add(x.of(show, what));
    }

    private void texts() {
        for (int show = 0; show < 20; show++) {
            add(x.must(show));
            add(x.may(show));
            add(x.why(show));
            add(x.slip(show));
            add(x.carry(show));
        }
        add(x.tick(24));
        for (int show = 0; show < 20; show++) add(x.why(show));
        for (int text = 0; text < 8; text++) add(x.drop(text));
        for (int show = 0; show < 20; show++) add(x.may(show));
    }

    private void tape() {
        add(x.count(12));
        add(x.text(0, 80));
        Due.feed(x, "day<99");
        add(x.text(0, 80));
        for (int show = 0; show < 20; show++) add(x.why(show));
        add(x.wipe());
        for (int i = 0; i < 31; i++) add(x.feed(0x6D617920, 4));
    }

    private void sheets() {
        for (int s = 0; s < 4; s++) {
            for (int i = 0; i <= 20; i++) add(x.read(s, i));
            add(x.write(s, 0, -9999));
            add(x.read(s, 0));
            add(x.check(0, s));
            add(x.film(s, 0));
        }
    }

    private void cells() {
        for (int cell = 0; cell < 96; cell++) add(x.cell(cell, 0));
        for (int s = 0; s < 4; s++) add(x.story(s, 0));
        add(x.fade(1));
        add(x.troops(0));
    }

    /** The weather, the flights and the listeners are told by what comes of them. */
    private void ahead() {
        for (int i = 0; i < 16; i++) {
            add(x.tick(1));
            for (int show = 1; show < 11; show += 3) add(x.of(show, 4));
            add(x.count(3));
            add(x.count(10));
        }
        for (int r = 0; r < 12; r++) for (int what = 0; what < 5; what++) add(x.report(r, what));
    }

    /** How much room there is. */
    private void eyes() {
        for (int i = 0; i < 31; i++) add(x.flight(1943, 0, 0));
        for (int i = 0; i < 31; i++) add(x.listen(1943));
        for (int i = 0; i < 91; i++) add(x.prisoner(1, false));
    }

    private void image() {
        add(x.undo());
        for (int what = 0; what <= 14; what++) add(x.count(what));
        for (int s = 0; s < 4; s++) add(x.weight(s));
        for (int what = 0; what < 4; what++) add(x.where(0, what));
        for (int what = 0; what < 8; what++) add(x.report(0, what));
        shows(0, 10);
        add(x.tear());
        add(x.undo());
    }

    private void plans() {
        for (int s = 0; s < 4; s++) {
            for (int set : new int[] {0, 1, 7, 15, 511}) {
                add(x.plan(s, set, 9, 20));
                add(x.judge(s, set, true));
                add(x.judge(s, set, false));
                add(x.last(s, set));
            }
        }
        add(x.shift());
        for (int s = 0; s < 4; s++) add(x.held(s));
    }

    private void ways() {
        for (int unit = 0; unit < 12; unit++) {
            for (int what = 0; what < 4; what++) add(x.where(unit, what));
            add(x.still(unit, 0));
            add(x.still(unit, 1));
        }
        for (int unit = 0; unit < 12; unit++) add(x.move(unit, unit));
    }

    private void room() {
        for (int i = 0; i < 41; i++) add(x.road(0, 1, 1));
        for (int i = 0; i < 13; i++) add(x.unit(0, 1));
        for (int i = 0; i < 21; i++) add(x.show(0, 0, 0));
    }

    private void reports(int from, int to) {
        for (int r = from; r < to; r++) for (int what = 0; what <= 7; what++) add(x.report(r, what));
    }
}
