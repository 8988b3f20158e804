/** Promises 1 to 10: a new object, cell, road, unit, move, where, still, weather, purse, story. */
public final class CoastTest {
    private static final Due due = new Due();

    public static void main(String[] args) {
        newObject();
        firstWeather();
        cell();
        road();
        unit();
        lastUnitAndRoad();
        moveAndWhere();
        longestAndShortestRoad();
        quietHolds();
        othersHoldNot();
        still();
        stillAtItsEdges();
        weather();
        purse();
        story();
        due.end();
    }

    private static void newObject() {
        GhostCoast x = new GhostCoast();
        for (int what = 0; what <= 12; what++) due.is("new: count(" + what + ")", x.count(what), 0);
        due.is("new: count(13)", x.count(13), 9);
        due.is("new: count(14)", x.count(14), 0);
        due.is("new: status(-1)", x.status(-1), 0);
        due.is("new: undo()", x.undo(), Due.NONE);
        due.is("new: tear()", x.tear(), 0);
        due.is("new: text(0, 0)", x.text(0, 0), -1);
        for (int s = 0; s < 4; s++) {
            due.is("new: read", x.read(s, 0), Due.MISSING);
            due.is("new: weight", x.weight(s), 1);
            due.is("new: held", x.held(s), 0);
            due.is("new: story", x.story(s, 0), 0);
        }
        due.is("new: likeliest", x.likeliest(0), 0);
        due.is("new: known", x.known(1943), 0);
    }

    /** WIND and CLOUD are 0: what BEARS 0 is whole, and a flight at a HEIGHT of 9 sees it. */
    private static void firstWeather() {
        GhostCoast x = new GhostCoast();
        Due.shown(x, 1, 101, 0, 1);
        x.flight(0, 19, 0);
        x.tick(1);
        due.is("new: no wind", x.of(0, 4), 0);
        due.is("new: no cloud", x.count(3), 1);
    }

    private static void cell() {
        GhostCoast y = new GhostCoast();
        for (int cell = 0; cell < 96; cell++) {
            due.is("a field at first: " + cell, y.cell(cell, cell % 4), 0);
        }
        for (int cell = 0; cell < 96; cell++) due.is("ground of " + cell, y.cell(cell, 0), cell % 4);
        GhostCoast x = new GhostCoast();
        due.is("cell", x.cell(0, 3), 0);
        due.is("cell again", x.cell(0, 1), 3);
        due.is("cell last", x.cell(95, 2), 0);
        due.is("cell last again", x.cell(95, 0), 2);
        due.is("cell -1", x.cell(-1, 0), Due.BEYOND);
        due.is("cell 96", x.cell(96, 0), Due.BEYOND);
        due.is("ground -1", x.cell(0, -1), Due.BEYOND);
        due.is("ground 4", x.cell(0, 4), Due.BEYOND);
        due.is("cell as it was", x.cell(0, 0), 1);
        due.is("cell least", x.cell(Integer.MIN_VALUE, Integer.MAX_VALUE), Due.BEYOND);
    }

    private static void road() {
        GhostCoast x = new GhostCoast();
        due.is("road", x.road(0, 95, 1), 0);
        due.is("road", x.road(95, 0, 30), 1);
        due.is("road a -1", x.road(-1, 0, 1), Due.BEYOND);
        due.is("road a 96", x.road(96, 0, 1), Due.BEYOND);
        due.is("road b -1", x.road(0, -1, 1), Due.BEYOND);
        due.is("road b 96", x.road(0, 96, 1), Due.BEYOND);
        due.is("road to itself", x.road(7, 7, 1), Due.BEYOND);
        due.is("road of 0 hours", x.road(0, 1, 0), Due.BEYOND);
        due.is("road of 31 hours", x.road(0, 1, 31), Due.BEYOND);
        for (int i = 2; i < 40; i++) due.is("road", x.road(0, 1, 2), i);
        due.is("road 40", x.road(0, 1, 2), Due.FULL);
        due.is("road wrong and full", x.road(0, 0, 2), Due.BEYOND);
        due.is("roads", x.count(0), 40);
    }

    private static void unit() {
        GhostCoast x = new GhostCoast();
        due.is("unit", x.unit(0, 1), 0);
        due.is("unit", x.unit(95, 90), 1);
        due.is("unit cell -1", x.unit(-1, 1), Due.BEYOND);
        due.is("unit cell 96", x.unit(96, 1), Due.BEYOND);
        due.is("unit strength 0", x.unit(0, 0), Due.BEYOND);
        due.is("unit strength 91", x.unit(0, 91), Due.BEYOND);
        for (int i = 2; i < 12; i++) due.is("unit", x.unit(3, 5), i);
        due.is("unit 12", x.unit(3, 5), Due.FULL);
        due.is("unit wrong and full", x.unit(3, 0), Due.BEYOND);
        due.is("units", x.count(1), 12);
    }

    private static void lastUnitAndRoad() {
        GhostCoast x = new GhostCoast();
        for (int i = 0; i < 12; i++) x.unit(i, 70 + i);
        for (int i = 0; i < 40; i++) x.road(i == 39 ? 95 : 50 + i % 40, i == 39 ? 11 : 45, 1 + i % 30);
        due.is("still of the last", x.still(11, 39), 0);
        due.is("move of the last", x.move(11, 39), 10);
        due.is("its road", x.where(11, 2), 39);
        due.is("its strength", x.where(11, 1), 81);
        x.tick(10);
        due.is("where it is", x.where(11, 0), 95);
        due.is("where unit 12 is", x.where(12, 0), Due.BEYOND);
        due.is("unit 12 on a road", x.move(12, 39), Due.BEYOND);
        due.is("on road 40", x.move(11, 40), Due.BEYOND);
    }

    private static void moveAndWhere() {
        GhostCoast x = new GhostCoast();
        x.unit(4, 77);
        x.road(9, 4, 2);
        x.road(5, 6, 1);
        due.is("move unit -1", x.move(-1, 0), Due.BEYOND);
        due.is("move unit 1", x.move(1, 0), Due.BEYOND);
        due.is("move road -1", x.move(0, -1), Due.BEYOND);
        due.is("move road 2", x.move(0, 2), Due.BEYOND);
        due.is("move on a road from elsewhere", x.move(0, 1), Due.KIND);
        x.tick(3);
        due.is("move", x.move(0, 0), 5);
        due.is("move again", x.move(0, 0), Due.STATE);
        due.is("on a road and from elsewhere", x.move(0, 1), Due.STATE);
        due.is("where cell", x.where(0, 0), 4);
        due.is("where strength", x.where(0, 1), 77);
        due.is("where road", x.where(0, 2), 0);
        due.is("where to go", x.where(0, 3), 2);
        x.tick(1);
        due.is("where cell after an hour", x.where(0, 0), 4);
        due.is("where to go after an hour", x.where(0, 3), 1);
        x.tick(1);
        due.is("where cell there", x.where(0, 0), 9);
        due.is("where road there", x.where(0, 2), -1);
        due.is("where to go there", x.where(0, 3), 0);
        due.is("move back", x.move(0, 0), 7);
        x.tick(2);
        due.is("where cell back", x.where(0, 0), 4);
        due.is("where unit -1", x.where(-1, 0), Due.BEYOND);
        due.is("where unit 1", x.where(1, 0), Due.BEYOND);
        due.is("where what -1", x.where(0, -1), Due.BEYOND);
        due.is("where what 4", x.where(0, 4), Due.BEYOND);
    }

    private static void longestAndShortestRoad() {
        GhostCoast x = new GhostCoast();
        x.unit(95, 90);
        x.unit(0, 1);
        x.road(0, 95, 30);
        x.road(0, 95, 1);
        int[] first = {95, 90, -1, 0};
        for (int what = 0; what < 4; what++) due.is("a new unit: " + what, x.where(0, what), first[what]);
        due.is("30 hours", x.move(0, 0), 30);
        due.is("1 hour", x.move(1, 1), 1);
        due.is("30 to go", x.where(0, 3), 30);
        x.tick(1);
        due.is("there in 1 hour", x.where(1, 0), 95);
        due.is("no more to go", x.where(1, 3), 0);
        due.is("29 to go", x.where(0, 3), 29);
        x.tick(28);
        due.is("1 to go", x.where(0, 3), 1);
        due.is("still from where it went", x.where(0, 0), 95);
        x.tick(1);
        due.is("there in 30", x.where(0, 0), 0);
        due.is("on no road", x.where(0, 2), -1);
    }

    /** A unit is held by no show of another kind, however its numbers are, nor by a quiet one that isn't shown. */
    private static void othersHoldNot() {
        GhostCoast x = new GhostCoast();
        x.unit(0, 1);
        x.road(0, 1, 2);
        int[] hands = {0, 1, 4, 2, 0, 0};
        for (int kind = 0; kind < 6; kind++) Due.shown(x, kind, 0, 0, hands[kind]);
        x.show(6, 0, 0);
        for (int show = 0; show < 6; show++) due.is("shown", x.of(show, 9), 1);
        due.is("a quiet one that doesn't stand", x.of(6, 9), 0);
        due.is("none holds it", x.move(0, 0), 2);
    }

    private static void quietHolds() {
        GhostCoast x = new GhostCoast();
        x.unit(0, 1);
        x.unit(0, 1);
        x.road(0, 1, 2);
        x.road(2, 3, 2);
        x.show(6, 0, 100);
        x.stand(0, true);
        due.is("move of another unit", x.move(0, 0), 2);
        due.is("move where a quiet is shown", x.move(1, 0), Due.STATE);
        due.is("a quiet, and a road from elsewhere", x.move(1, 1), Due.STATE);
        due.is("still where a quiet is shown", x.still(1, 0), 0);
        due.is("bar", Due.text(x, "bar quiet", 0, 0), 0);
        due.is("move where the quiet is barred", x.move(1, 0), 2);
    }

    private static void still() {
        GhostCoast x = new GhostCoast();
        x.unit(0, 1);
        x.road(0, 1, 3);
        x.road(2, 3, 3);
        due.is("still with no flight", x.still(0, 0), 0);
        x.flight(2, 5, 0);
        due.is("still, a flight over its own cell", x.still(0, 0), 3);
        x.flight(5, 10, 0);
        due.is("still, a flight over the other end", x.still(0, 0), 6);
        x.flight(6, 16, 0);
        x.flight(6, 20, 0);
        due.is("still, flights that are high or elsewhere", x.still(0, 0), 6);
        x.flight(9, 0, 0);
        due.is("still, a flight behind the hours", x.still(0, 0), 6);
        due.is("still unit", x.still(1, 0), Due.BEYOND);
        due.is("still unit -1", x.still(-1, 0), Due.BEYOND);
        due.is("still road", x.still(0, 2), Due.BEYOND);
        due.is("still road -1", x.still(0, -1), Due.BEYOND);
        due.is("still from elsewhere", x.still(0, 1), Due.KIND);
        x.move(0, 0);
        due.is("still on a road", x.still(0, 0), Due.STATE);
        due.is("still on a road, from elsewhere", x.still(0, 1), Due.STATE);
        x.weather(0, 9);
        x.unit(0, 1);
        due.is("still under a cloud", x.still(1, 0), 6);
        x.tick(7);
        due.is("still from the open hour on", x.still(1, 0), 10);
    }

    private static void stillAtItsEdges() {
        GhostCoast x = new GhostCoast();
        x.unit(0, 1);
        x.road(0, 1, 30);
        for (int hour = 29; hour < 200; hour += 30) x.flight(hour, 0, 0);
        x.flight(199, 0, 0);
        due.is("still, 200 hours behind", x.still(0, 0), 200);
        x.flight(200, 0, 0);
        due.is("still, 201 hours behind", x.still(0, 0), Due.NONE);
        x.tick(1);
        due.is("still, 200 hours behind the open one", x.still(0, 0), 201);
        GhostCoast y = new GhostCoast();
        y.unit(0, 1);
        y.road(0, 1, 2);
        while (y.count(7) < 1940) y.tick(20);
        y.tick(3);
        y.flight(1943, 0, 0);
        due.is("still, behind the last hour", y.still(0, 0), 1944);
        due.is("move, there behind the last hour", y.move(0, 0), 1945);
    }

    private static void weather() {
        GhostCoast x = new GhostCoast();
        due.is("weather", x.weather(0, 9), 1);
        due.is("weather", x.weather(9, 0), 1);
        due.is("wind -1", x.weather(-1, 0), Due.BEYOND);
        due.is("wind 10", x.weather(10, 0), Due.BEYOND);
        due.is("cloud -1", x.weather(0, -1), Due.BEYOND);
        due.is("cloud 10", x.weather(0, 10), Due.BEYOND);
        Due.shown(x, 1, 0, 8, 1);
        x.tick(1);
        due.is("broken by the wind that was right", x.of(0, 4), 1);
    }

    private static void purse() {
        GhostCoast x = new GhostCoast();
        due.is("purse", x.purse(900, 9000), 1);
        due.is("pool", x.count(8), 900);
        due.is("coin", x.count(9), 9000);
        due.is("pool -1", x.purse(-1, 0), Due.BEYOND);
        due.is("pool 901", x.purse(901, 0), Due.BEYOND);
        due.is("coin -1", x.purse(0, -1), Due.BEYOND);
        due.is("coin 9001", x.purse(0, 9001), Due.BEYOND);
        due.is("pool as it was", x.count(8), 900);
        due.is("purse of nothing", x.purse(0, 0), 1);
        due.is("pool 0", x.count(8), 0);
        due.is("coin 0", x.count(9), 0);
    }

    private static void story() {
        GhostCoast x = new GhostCoast();
        due.is("story", x.story(3, 95), 0);
        due.is("story again", x.story(3, 7), 95);
        due.is("story -1", x.story(-1, 0), Due.BEYOND);
        due.is("story 4", x.story(4, 0), Due.BEYOND);
        due.is("story cell -1", x.story(3, -1), Due.BEYOND);
        due.is("story cell 96", x.story(3, 96), Due.BEYOND);
        due.is("story as it was", x.story(3, 0), 7);
    }
}
