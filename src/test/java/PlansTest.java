/** Promises 39 to 44: agree, slip, carry, plan, judge, last. */
public final class PlansTest {
    private static final Due due = new Due();

    public static void main(String[] args) {
        agreeByKinds();
        agreeNotAtAll();
        agreeInOrder();
        slip();
        slipIsOfCredit4();
        slipTakesTheOldestAway();
        carry();
        carryByAll();
        plan();
        planWithin();
        fewestThoughGreaterAsBits();
        needsAndPricesOfAll();
        leastMore();
        planInExactFractions();
        planNow();
        planFindings();
        judge();
        judgeTakesTheOldestAway();
        last();
        lastFades();
        lastOfPartsOfADay();
        lastOfJustTwelve();
        lastUntilTheEdge();
        lastOfLateOnes();
        lastAtItsEdges();
        due.end();
    }

    private static void pair(GhostCoast x, int i, int lesser, int greater, int eye) {
        due.is("lesser of pair " + i, x.agree(i, 0), lesser);
        due.is("greater of pair " + i, x.agree(i, 1), greater);
        due.is("eye of pair " + i, x.agree(i, 2), eye);
    }

    private static void agreeByKinds() {
        GhostCoast x = new GhostCoast();
        Due.shown(x, 0, 101, 0, 0);
        Due.shown(x, 2, 201, 0, 4);
        due.is("a show and a camp in a cell", x.count(11), 1);
        pair(x, 0, 0, 1, 0);
        Due.shown(x, 1, 202, 0, 1);
        Due.shown(x, 1, 101, 0, 1);
        due.is("in other cells, of like stories", x.count(11), 2);
        pair(x, 1, 1, 3, 0);
        Due.shown(x, 3, 101, 306, 2);
        Due.shown(x, 3, 207, 607, 2);
        Due.shown(x, 3, 308, 708, 2);
        Due.shown(x, 3, 10, 2, 2);
        due.is("nets by times", x.count(11), 4);
        pair(x, 2, 4, 5, 1);
        pair(x, 3, 5, 6, 1);
        netsTheOtherWayRound();
        Due.shown(x, 4, 101, 0, 0);
        Due.shown(x, 4, 209, 0, 0);
        Due.shown(x, 5, 301, 0, 0);
        Due.shown(x, 5, 201, 0, 0);
        due.is("voices", x.count(11), 5);
        pair(x, 4, 8, 9, 2);
        x.stand(1, false);
        due.is("one that isn't shown", x.count(11), 3);
        pair(x, 0, 4, 5, 1);
        due.is("pair -1", x.agree(-1, 0), Due.BEYOND);
        due.is("pair 3", x.agree(3, 0), Due.BEYOND);
        due.is("what -1", x.agree(0, -1), Due.BEYOND);
        due.is("what 3", x.agree(0, 3), Due.BEYOND);
        due.is("most", x.agree(Integer.MAX_VALUE, 0), Due.BEYOND);
    }

    private static void netsTheOtherWayRound() {
        GhostCoast x = new GhostCoast();
        Due.shown(x, 3, 100, 607, 2);
        Due.shown(x, 3, 200, 306, 2);
        Due.shown(x, 3, 300, 205, 2);
        due.is("they meet at one time alone", x.count(11), 2);
        pair(x, 0, 0, 1, 1);
        pair(x, 1, 1, 2, 1);
    }

    /** Of unlike kinds no eye could see both, though they are in a cell, and whichever is the lesser. */
    private static void agreeNotAtAll() {
        int[] numbers = {0, 0, 0, 23, 400, 499, 0};
        int[] hands = {0, 1, 4, 2, 0, 0, 0};
        for (int kind = 0; kind < 7; kind++) {
            for (int other = 0; other < 7; other++) {
                GhostCoast x = new GhostCoast();
                x.unit(0, 1);
                Due.shown(x, kind, 105, numbers[kind], hands[kind]);
                Due.shown(x, other, 205, numbers[other], hands[other]);
                int eye = kind <= 2 && other <= 2 ? 0 : kind != other ? -1 : kind == 3 ? 1 : kind == 4 ? 2 : -1;
                due.is("pairs of " + kind + " and " + other, x.count(11), eye < 0 ? 0 : 1);
                if (eye < 0) due.is("pair 0", x.agree(0, 2), Due.BEYOND);
                else pair(x, 0, 0, 1, eye);
                Due.shown(x, other, 105, numbers[other], hands[other]);
                int like = kind == other || kind <= 2 && other <= 2 ? 1 : 0;
                due.is("of like stories agree", x.count(11), eye >= 0 ? 2 : other == 3 || other == 4 || other <= 2 ? 1 : 0);
                if (like == 0) due.is("the pair of the others", x.agree(0, 0), other <= 4 ? 1 : Due.BEYOND);
            }
        }
        GhostCoast x = new GhostCoast();
        Due.shown(x, 0, 105, 0, 0);
        Due.shown(x, 0, 206, 0, 0);
        Due.shown(x, 3, 105, 1112, 2);
        Due.shown(x, 3, 205, 1313, 2);
        Due.shown(x, 3, 305, 910, 2);
        due.is("in other cells, at other times", x.count(11), 0);
    }

    private static void agreeInOrder() {
        GhostCoast x = new GhostCoast();
        for (int i = 0; i < 20; i++) Due.shown(x, i < 4 ? 0 : 4, 100 * (i % 4), 0, 0);
        pair(x, 0, 0, 1, 0);
        pair(x, 1, 0, 2, 0);
        pair(x, 2, 0, 3, 0);
        pair(x, 3, 1, 2, 0);
        pair(x, 5, 2, 3, 0);
        pair(x, 6, 4, 5, 2);
        due.is("all pairs", x.count(11), 6 + 16 * 12 / 2);
        pair(x, 6 + 95, 18, 19, 2);
        GhostCoast y = new GhostCoast();
        for (int i = 0; i < 20; i++) Due.shown(y, 0, 100 * (i % 4), 0, 0);
        due.is("the most pairs", y.count(11), 150);
        pair(y, 149, 18, 19, 0);
        due.is("behind the most", y.agree(150, 0), Due.BEYOND);
    }

    private static void slip() {
        GhostCoast x = new GhostCoast();
        x.show(4, 0, 0);
        x.show(4, 100, 0);
        due.is("against 0, of like ones the least", x.slip(0), 1);
        due.is("against 1", x.slip(1), 0);
        x.prisoner(1, true);
        due.is("5 against 4", x.slip(1), 0);
        x.prisoner(1, true);
        due.is("5 against 16", x.slip(1), 1);
        due.is("slip -1", x.slip(-1), Due.BEYOND);
        due.is("slip 2", x.slip(2), Due.BEYOND);
        due.is("it changes nothing", x.count(3), 2);
        due.is("nor weights", x.weight(1), 16);
    }

    /** A voice of TRUST 4 weighs 5, as much as what is told against its story. */
    private static void slipIsOfCredit4() {
        for (int story = 0; story < 2; story++) {
            GhostCoast x = new GhostCoast();
            Due.shown(x, 4, 100 * story, 401, 0);
            x.tell(0);
            due.is("5 against 5", x.slip(0), 0);
        }
    }

    private static void slipTakesTheOldestAway() {
        GhostCoast x = new GhostCoast();
        x.show(4, 200, 0);
        Due.shown(x, 4, 100, 109, 0);
        x.prisoner(0, true);
        for (int i = 0; i < 2; i++) x.tell(1);
        for (int i = 0; i < 9; i++) x.prisoner(3, i % 2 == 0);
        // 0: 4 * 4^4, 1: 2 * 2 * 4^4, 2: 4^4, 3: 4^5: of 0, 1 and 3 alike 0 is the least.
        due.is("of like ones", x.likeliest(0), 0);
        due.is("without the oldest, 1 and 3 are alike", x.slip(0), 1);
        due.is("against 1", x.slip(1), 3);
    }

    private static void carry() {
        GhostCoast x = new GhostCoast();
        Due.shown(x, 0, 101, 0, 0);
        Due.shown(x, 4, 102, 0, 0);
        Due.shown(x, 4, 202, 0, 0);
        Due.shown(x, 1, 103, 0, 1);
        x.show(0, 104, 0);
        due.is("carry", x.carry(0), 2 + 8);
        due.is("carry of one that isn't shown", x.carry(4), 1 + 2 + 8);
        due.is("carry of another story", x.carry(2), 0);
        x.hands(3, 0);
        due.is("carry without what isn't shown", x.carry(0), 2);
        due.is("carry -1", x.carry(-1), Due.BEYOND);
        due.is("carry 5", x.carry(5), Due.BEYOND);
    }

    /** Twenty, of which the first, the last and those between them are shown in turn. */
    private static void carryByAll() {
        GhostCoast x = new GhostCoast();
        for (int i = 0; i < 20; i++) Due.shown(x, 0, 200 + i, 0, 0);
        due.is("all but the first", x.carry(0), 1048574);
        due.is("all but the last", x.carry(19), 524287);
        due.is("all but one", x.carry(7), 1048575 - 128);
        for (int i = 1; i < 19; i++) x.stand(i, false);
        due.is("the last", x.carry(0), 524288);
        due.is("the first", x.carry(19), 1);
        due.is("both", x.carry(7), 524289);
        x.stand(19, false);
        due.is("none: it is no other", x.carry(0), 0);
        due.is("of all", x.carry(19), 1);
    }

    private static void plan() {
        GhostCoast x = new GhostCoast();
        x.unit(0, 1);
        x.show(1, 100, 0);
        x.show(4, 100, 400);
        x.show(3, 100, 0);
        x.show(5, 200, 400);
        x.show(6, 100, 0);
        due.is("all of the story, not those of credit 0", x.plan(1, 31, 99, 99), 7);
        due.is("of a part of the set", x.plan(1, 30, 99, 99), 6);
        due.is("another story", x.plan(2, 31, 99, 99), 8);
        due.is("a story that none tells: none is best", x.plan(0, 31, 99, 99), 0);
        due.is("of no show", x.plan(1, 0, 99, 99), 0);
        due.is("the number is what it was", x.count(3), 0);
        GhostCoast y = new GhostCoast();
        y.show(0, 100, 0);
        y.show(2, 100, 0);
        due.is("like ones by bits", y.plan(1, 3, 99, 4), 1);
        due.is("both", y.plan(1, 3, 4, 6), 3);
    }

    private static void planWithin() {
        GhostCoast x = new GhostCoast();
        x.show(2, 100, 0);
        x.show(3, 100, 4);
        x.show(4, 100, 100);
        // Needs 4, 2, 0; prices 5, 5, 1; credits 2, 1, 1.
        due.is("hands 6, coin 11", x.plan(1, 7, 6, 11), 7);
        due.is("hands 5", x.plan(1, 7, 5, 11), 5);
        due.is("hands 3", x.plan(1, 7, 3, 11), 6);
        due.is("hands 1", x.plan(1, 7, 1, 11), 4);
        due.is("coin 10: 6 by two or by two others: 3 * 2 is more", x.plan(1, 7, 6, 10), 3);
        due.is("coin 9", x.plan(1, 7, 6, 9), 5);
        due.is("coin 5: one show of credit 2", x.plan(1, 7, 6, 5), 1);
        due.is("coin 1", x.plan(1, 7, 6, 1), 4);
        due.is("coin 0", x.plan(1, 7, 6, 0), 0);
        fewestThenLeast();
    }

    /** A credit of 3 is as good as two of credit 1: the fewer shows, though greater as bits. */
    private static void fewestThenLeast() {
        GhostCoast x = new GhostCoast();
        x.show(3, 100, 1);
        x.show(3, 100, 1);
        x.show(5, 100, 300);
        x.show(5, 100, 300);
        due.is("two nets", x.plan(1, 3, 4, 4), 3);
        due.is("all but what is needed", x.plan(1, 7, 4, 4), 7);
        due.is("a paper alone, as hands are short", x.plan(1, 7, 1, 4), 4);
        x.unit(0, 1);
        x.show(6, 100, 0);
        due.is("a quiet adds nothing", x.plan(1, 31, 0, 0), 12);
        GhostCoast y = new GhostCoast();
        y.show(4, 100, 100);
        y.show(4, 100, 100);
        y.show(3, 100, 1);
        y.show(5, 100, 300);
        due.is("coin for two voices or one net", y.plan(1, 7, 9, 2), 3);
        due.is("two voices are as one paper with no coin", y.plan(1, 11, 9, 0), 8);
        x = new GhostCoast();
        x.show(4, 100, 100);
        x.show(4, 100, 100);
        x.show(1, 100, 0);
        x.show(4, 100, 300);
        x.show(1, 100, 0);
        due.is("coin 2: 2 * 4 by voices 0 and 3, of like ones the least", x.plan(1, 31, 9, 2), 9);
        due.is("coin 2 without voice 3: two voices are 4", x.plan(1, 23, 9, 2), 3);
        due.is("coin 1: a credit of 3", x.plan(1, 31, 9, 1), 8);
    }

    /**
     * Shows 3 and 4 leave 16 of story 0, and 300000 of story 1: 300000 of 300018. Shows 0, 1 and 3 drive
     * one more report of story 0 out: 100000 of 100006. That is as likely; the fewer are the greater as bits.
     */
    private static void fewestThoughGreaterAsBits() {
        GhostCoast x = new GhostCoast();
        x.show(4, 100, 0);
        x.show(4, 100, 0);
        x.show(3, 200, 2);
        x.show(5, 100, 400);
        x.show(2, 100, 0);
        for (int trust : new int[] {4, 1, 0}) Due.shown(x, 4, 100, 100 * trust + 9, 0);
        x.prisoner(1, true);
        x.prisoner(0, true);
        x.prisoner(0, true);
        x.tell(5);
        x.tell(6);
        x.prisoner(1, true);
        x.tell(5);
        x.tell(7);
        x.prisoner(1, true);
        x.tell(5);
        x.prisoner(0, true);
        x.tell(5);
        due.is("above by 3 and 4", x.judge(1, 24, false), 50000);
        due.is("below by 3 and 4", x.judge(1, 24, true), 50003);
        due.is("above by 0, 1 and 3", x.judge(1, 11, false), 50000);
        due.is("below by 0, 1 and 3", x.judge(1, 11, true), 50003);
        due.is("the fewer", x.plan(1, 31, 7, 5), 24);
    }

    /**
     * With none, of stories 0 to 3: 9, 25600, 64, 64. Show 3 drives a voice's report out, show 4 then a prisoner's
     * against story 0: 9, 7680, 16, 16. That is more by one part in 80000.
     */
    private static void planInExactFractions() {
        GhostCoast x = new GhostCoast();
        Due.shown(x, 4, 100, 9, 0);
        Due.shown(x, 4, 100, 409, 0);
        Due.shown(x, 4, 0, 209, 0);
        x.show(4, 100, 200);
        x.show(5, 100, 100);
        // A voice, or -1 a prisoner for story 1, -2 one against story 0.
        for (int teller : new int[] {1, -2, -1, 0, 2, 2, -2, -1, 1, 0, 0, -2}) {
            if (teller >= 0) x.tell(teller);
            else x.prisoner(teller + 2, teller == -1);
        }
        due.is("none above", x.judge(1, 0, false), 25600);
        due.is("none below", x.judge(1, 0, true), 25737);
        due.is("both above", x.judge(1, 24, false), 7680);
        due.is("both below", x.judge(1, 24, true), 7721);
        due.is("both", x.plan(1, 24, 0, 1), 24);
        due.is("coin for one alone: none is better", x.plan(1, 24, 0, 0), 0);
    }

    /** What is known from the next hour on, and what fades with it, is no matter now. */
    private static void planNow() {
        for (int late = 1; late <= 2; late++) {
            GhostCoast x = new GhostCoast();
            x.unit(0, 1);
            x.show(6, 300, 0);
            Due.shown(x, 4, 200, 9, 0);
            Due.shown(x, 4, 200, 9, 0);
            Due.shown(x, 0, 105, 0, 0);
            x.fade(1);
            x.prisoner(0, true);
            for (int i = 0; i < 10; i++) x.tell(1 + i % 2);
            x.flight(23, 50, late);
            x.tick(24);
            // Eleven are known, and one that is, late by 1, or will be, late by 2.
            due.is("counted", x.counted(24), late == 1 ? 12 : 11);
            due.is("above", x.judge(3, 1, false), 1);
            due.is("below", x.judge(3, 1, true), late == 1 ? 6 : 7);
            due.is("a quiet one drives the prisoner out, or has room", x.plan(3, 1, 0, 0), late == 1 ? 1 : 0);
            x.tick(1);
            due.is("all but one have faded", x.counted(25), 1);
            due.is("no quiet one is wanted", x.plan(3, 1, 0, 0), 0);
        }
    }

    /** Of nine of 20 shows, the first and the last among them: needs 9, prices 18. */
    private static void needsAndPricesOfAll() {
        GhostCoast x = new GhostCoast();
        for (int i = 0; i < 20; i++) x.show(1, 100, 0);
        int set = 1 + 2 + 8 + 64 + 1024 + 4096 + 32768 + 262144 + 524288;
        due.is("all", x.plan(1, set, 9, 18), set);
        due.is("a hand less: the last is left out", x.plan(1, set, 8, 18), set - 524288);
        due.is("coin for one less", x.plan(1, set, 9, 17), set - 524288);
        due.is("hands for one", x.plan(1, set, 1, 18), 1);
        due.is("coin for one", x.plan(1, set, 9, 2), 1);
        due.is("hands for none", x.plan(1, set, 0, 18), 0);
        due.is("coin for none", x.plan(1, set, 9, 1), 0);
        due.is("the last alone", x.plan(1, 524288, 1, 2), 524288);
        due.is("the last alone, no hands", x.plan(1, 524288, 0, 2), 0);
        due.is("the last alone, no coin", x.plan(1, 524288, 1, 1), 0);
    }

    /** A quiet one drives the only report that weighs out: 1 of 4 is more than 1 of 5. */
    private static void leastMore() {
        GhostCoast x = new GhostCoast();
        x.unit(0, 1);
        x.show(6, 300, 0);
        Due.shown(x, 3, 0, 23, 2);
        for (int i = 0; i < 2; i++) Due.shown(x, 4, 200, 9, 0);
        x.listen(0);
        x.tick(1);
        for (int i = 0; i < 11; i++) x.tell(2 + i % 2);
        due.is("twelve", x.counted(1), 12);
        due.is("1 of 5", x.likely(1, true), 5);
        due.is("1 of 4", x.judge(1, 1, true), 4);
        due.is("so the quiet one", x.plan(1, 1, 0, 0), 1);
        due.is("for story 0 it is none", x.plan(0, 1, 0, 0), 0);
    }

    private static void planFindings() {
        GhostCoast x = new GhostCoast();
        for (int i = 0; i < 10; i++) x.show(0, 100, 0);
        due.is("story -1", x.plan(-1, 0, 0, 0), Due.BEYOND);
        due.is("story 4", x.plan(4, 0, 0, 0), Due.BEYOND);
        due.is("set -1", x.plan(0, -1, 0, 0), Due.BEYOND);
        due.is("set of others", x.plan(0, 1 << 10, 0, 0), Due.BEYOND);
        due.is("set of a far one", x.plan(0, 1 << 30, 0, 0), Due.BEYOND);
        due.is("hands -1", x.plan(0, 0, -1, 0), Due.BEYOND);
        due.is("coin -1", x.plan(0, 0, 0, -1), Due.BEYOND);
        due.is("ten", x.plan(1, 1023, 0, 0), Due.SIZE);
        due.is("ten, and coin -1", x.plan(1, 1023, 0, -1), Due.BEYOND);
        due.is("nine", x.plan(1, 1022, 0, 99), 1022);
        due.is("nine, with the most", x.plan(1, 511, Integer.MAX_VALUE, Integer.MAX_VALUE), 511);
        due.is("judge story -1", x.judge(-1, 0, true), Due.BEYOND);
        due.is("judge story 4", x.judge(4, 0, true), Due.BEYOND);
        due.is("judge set -1", x.judge(0, -1, true), Due.BEYOND);
        due.is("judge set of others", x.judge(0, 1024, true), Due.BEYOND);
        due.is("judge ten", x.judge(0, 1023, true), Due.SIZE);
        due.is("judge nine above", x.judge(1, 511, false), 6561);
        due.is("judge nine below", x.judge(1, 511, true), 6562);
        due.is("last of nine", x.last(1, 511), 1);
        due.is("last story -1", x.last(-1, 0), Due.BEYOND);
        due.is("last story 4", x.last(4, 0), Due.BEYOND);
        due.is("last set -1", x.last(0, -1), Due.BEYOND);
        due.is("last set of others", x.last(0, 1024), Due.BEYOND);
        due.is("last ten", x.last(0, 1023), Due.SIZE);
    }

    private static void judge() {
        GhostCoast x = new GhostCoast();
        x.unit(0, 1);
        int[] numbers = {0, 0, 0, 0, 400, 300, 0};
        // Credits 2, 2, 2, 1, 4, 3, 0: 3 of 6, 2 of 5, 5 of 8, 4 of 7, 1 of 4.
        int[] above = {1, 1, 1, 2, 5, 4, 1};
        int[] below = {2, 2, 2, 5, 8, 7, 4};
        for (int kind = 0; kind < 7; kind++) x.show(kind, 200, numbers[kind]);
        for (int kind = 0; kind < 7; kind++) {
            due.is("judge kind " + kind, x.judge(2, 1 << kind, false), above[kind]);
            due.is("judge kind " + kind + " below", x.judge(2, 1 << kind, true), below[kind]);
        }
        x.prisoner(1, true);
        due.is("with what is there", x.judge(2, 16 + 32, false), 10);
        due.is("with what is there, below", x.judge(2, 16 + 32, true), 13);
    }

    private static void judgeTakesTheOldestAway() {
        GhostCoast x = new GhostCoast();
        x.unit(0, 1);
        x.show(6, 300, 0);
        x.prisoner(0, true);
        for (int i = 0; i < 11; i++) x.prisoner(1, i % 2 == 0);
        // 6 reports for story 1 and 5 against it, of credit 3: 4^6 for 1, 4^5 for each other, and 4 more
        // for story 0 by the oldest, which the quiet one takes away.
        due.is("twelve", x.judge(0, 0, false), 2);
        due.is("twelve below", x.judge(0, 0, true), 5);
        due.is("a quiet one of credit 0", x.judge(0, 1, false), 1);
        due.is("a quiet one of credit 0, below", x.judge(0, 1, true), 7);
        due.is("so that a plan may want it", x.plan(3, 1, 0, 0), 1);
    }

    private static void last() {
        GhostCoast x = new GhostCoast();
        Due.shown(x, 4, 200, 101, 0);
        x.prisoner(1, true);
        due.is("last of none: until it fades", x.last(1, 0), 10);
        due.is("2 to the third is above 4", x.last(1, 1), 3);
        due.is("it is no other on the first day", x.last(2, 1), 1);
        due.is("one that is not the likeliest", x.last(0, 0), 1);
        Due.shown(x, 4, 300, 409, 0);
        due.is("those that aren't in the set give none", x.last(1, 1), 3);
        due.is("nor as the first", x.last(1, 2), 1);
        x.stand(0, false);
        due.is("those that aren't shown give none", x.last(1, 1), 10);
        x.fade(30);
        due.is("none up to 30", x.last(1, 0), Due.NONE);
        x.fade(29);
        due.is("the 30th", x.last(1, 0), 30);
        due.is("story 0 with nothing else stays", new GhostCoast().last(0, 0), Due.NONE);
    }

    private static void lastFades() {
        GhostCoast x = new GhostCoast();
        x.fade(2);
        Due.shown(x, 0, 0, 0, 0);
        Due.shown(x, 0, 0, 0, 0);
        x.prisoner(1, true);
        x.prisoner(1, true);
        x.prisoner(1, true);
        // On day 1 9 of story 0 against 64, on day 2 81: the greater, but with story 2 to be told, too, it isn't.
        due.is("story 1 until 81 is above 64", x.last(1, 3), 2);
        Due.shown(x, 4, 200, 409, 0);
        x.tell(2);
        // Of story 2 at d: 5^(d + 1) on days 1 and 2, 5^3 from then on; of story 0: 9, 81, 729, 729, ..
        due.is("story 2 is told on, too", x.last(2, 7), 1);
        x.strike(0);
        x.strike(1);
        due.is("story 2 until day 3, when told days fade", x.last(2, 7), 3);
        due.is("story 1 is not", x.last(1, 7), 1);
    }

    /** Of the latest twelve, by days and then by number, what is left of a day are its last shows. */
    private static void lastOfPartsOfADay() {
        GhostCoast x = new GhostCoast();
        for (int i = 0; i < 6; i++) x.unit(0, 1);
        Due.shown(x, 4, 200, 400, 0);
        for (int i = 0; i < 6; i++) Due.shown(x, 6, 0, 100 * i, 0);
        for (int i = 0; i < 2; i++) Due.shown(x, 4, 300, 100, 0);
        // Day 1: 5 of story 2, 4 of story 3; day 2: 5 and 16, by the three last shows of day 1.
        due.is("nine shows", x.last(2, 511), 2);
        x.fade(1);
        due.is("five shows of two days are ten reports", x.last(2, 1 + 2 + 4 + 128 + 256), Due.NONE);
    }

    /** Seven a day: on day 2 the latest twelve are these and 2 to 6 of day 1, not 1 of it. */
    private static void lastOfJustTwelve() {
        GhostCoast x = new GhostCoast();
        x.unit(0, 1);
        Due.shown(x, 6, 0, 0, 0);
        Due.shown(x, 4, 100, 400, 0);
        Due.shown(x, 4, 200, 300, 0);
        for (int i = 3; i < 7; i++) Due.shown(x, 6, 0, 0, 0);
        // Day 1: 5 and 4; day 2: 5 and 16, with the thirteenth it would be 25.
        due.is("the thirteenth latest doesn't count", x.last(1, 127), 2);
        // Day 2 of six: 25 and 16; day 3: 25 and 16, as day 1 is out.
        due.is("the twelfth does", x.last(1, 126), Due.NONE);
    }

    /** With FADE 2 days 1 to 3 count on day 3: of day 1 what has room in the twelve. */
    private static void lastUntilTheEdge() {
        GhostCoast x = new GhostCoast();
        x.fade(2);
        x.unit(0, 1);
        Due.shown(x, 4, 100, 400, 0);
        Due.shown(x, 6, 0, 0, 0);
        Due.shown(x, 6, 0, 0, 0);
        Due.shown(x, 4, 200, 300, 0);
        Due.shown(x, 6, 0, 0, 0);
        // Days 1 and 2: 5 and 4, 25 and 16; day 3: 25 and 64, by show 3 of day 1.
        due.is("48 hours ahead it counts", x.last(1, 31), 3);
        x.fade(1);
        due.is("49 it doesn't", x.last(1, 31), Due.NONE);
    }

    /** On day d as at the open hour and 24 d, neither an hour ahead nor behind. */
    private static void lastAtItsEdges() {
        for (int ahead = 0; ahead <= 1; ahead++) {
            GhostCoast x = new GhostCoast();
            x.tick(5);
            x.prisoner(1, true);
            if (ahead == 1) x.tick(1);
            due.is("got " + ahead + " ahead", x.last(1, 0), 10 - ahead);
        }
        for (int late = 24; late <= 26; late++) {
            GhostCoast x = new GhostCoast();
            Due.shown(x, 0, 205, 0, 0);
            x.flight(0, 50, late);
            x.tick(1);
            x.stand(0, false);
            // The open hour is 1: 25 hours late is known at 25, day 1.
            due.is("late by " + late, x.last(0, 0), late <= 25 ? 1 : 2);
        }
    }

    /** What is known late counts from then on, and the latest twelve of told days drive it out. */
    private static void lastOfLateOnes() {
        GhostCoast x = new GhostCoast();
        Due.shown(x, 0, 305, 0, 0);
        x.flight(0, 50, 48);
        x.tick(1);
        x.stand(0, false);
        due.is("not known on the first day", x.last(0, 0), 2);
        due.is("story 3 isn't yet on the first day", x.last(3, 0), 1);
        GhostCoast y = new GhostCoast();
        y.fade(30);
        for (int i = 0; i < 6; i++) y.unit(0, 1);
        for (int i = 0; i < 6; i++) Due.shown(y, 6, 0, 100 * i, 0);
        y.prisoner(2, true);
        due.is("six quiet ones a day drive it out by the second", y.last(2, 63), 2);
        due.is("five by the third", y.last(2, 31), 3);
    }
}
