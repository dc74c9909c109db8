/** The edges of FELT, LEVELS, MESSAGES, TOO LATE, TIME LEFT (promises 21 to 28); above each test the document's words. */
public final class EdgesOfTownsTest extends Edges {
    public static void main(String[] args) throws ReflectiveOperationException {
        runAll(EdgesOfTownsTest.class);
    }

    private static long mix(long h, int... values) {
        for (int v : values) h = 31 * h + v;
        return h;
    }

    /** Quake 0 can only be at cell 0; from there to cell 1 it is a way of as many ticks. */
    private static FirstSeconds oneCellAndAWay(int strength, int way) {
        FirstSeconds x = new FirstSeconds();
        x.rule(way * way, 0);
        x.station(0);
        x.station(1);
        x.later(way);
        x.pick(0, 0, strength);
        due.is("joins", x.pick(1, way, 1), 0);
        due.is("one cell", x.quake(0, 1), 1);
        due.is("it is cell 0", x.cell(0, 0), 0);
        return x;
    }

    /** Town 0 at cell 0, where the loss is 1: what it feels is the strength's bits less 1. */
    private static FirstSeconds townAtTheQuake(int strength) {
        FirstSeconds x = oneCell(strength);
        due.is("town", x.town(0), 0);
        return x;
    }

    /** Stations 0 (cell 0) and 1 (cell 143, deaf), towns at both; each pick of station 0 opens a quake of all cells. */
    private static FirstSeconds allCells() {
        FirstSeconds x = oneStation();
        x.station(143);
        x.deaf(1, true);
        x.town(0);
        x.town(143);
        return x;
    }

    // ---- Promise 21: felt

    // "LOW less a loss ..; 0 if below"
    static void feltIsNoneAtLeast() {
        int[][] feltOf = {{1, 0, 0}, {2, 1, 0}, {3, 1, 0}, {4, 2, 0}, {7, 2, 0}, {8, 3, 1}, {15, 3, 1}, {16, 4, 2}, {1000000, 19, 17}};
        for (int[] of : feltOf) {
            FirstSeconds x = oneCellAndAWay(of[0], 6);
            x.town(0);
            x.town(1);
            due.is("strength " + of[0] + " less one bit", x.felt(0, 0), of[1]);
            due.is("strength " + of[0] + " less the three bits of 7", x.felt(1, 0), of[2]);
        }
    }

    // "how many bits TRAVEL and 1 have": about the powers of two
    static void lossesAboutPowersOfTwo() {
        int[][] losses = {{3, 3}, {4, 3}, {6, 3}, {7, 4}, {8, 4}, {14, 4}, {15, 5}, {16, 5}, {20, 5}};
        for (int[] of : losses) {
            FirstSeconds x = oneCellAndAWay(1000000, of[0]);
            x.town(1);
            x.town(0);
            due.is("a way of " + of[0], x.felt(0, 0), 20 - of[1]);
            due.is("no way", x.felt(1, 0), 19);
        }
    }

    // "the greatest over the CELLS of its HEAP", and over no other ones
    static void lossesOverTheHeapAlone() {
        FirstSeconds x = oneCell(1000000);
        for (int cell : new int[] {0, 1, 11, 132, 143}) x.town(cell);
        due.is("at it", x.felt(0, 0), 19);
        due.is("10 and 1", x.felt(1, 0), 16);
        due.is("110 and 1", x.felt(2, 0), 13);
        due.is("110 and 1", x.felt(3, 0), 13);
        due.is("155 and 1", x.felt(4, 0), 12);
        FirstSeconds y = allCells();
        y.pick(0, 0, 1000000);
        due.is("all cells: 311 and 1", y.felt(0, 0), 11);
        due.is("all cells: 311 and 1", y.felt(1, 0), 11);
    }

    // "NONE: it has no CELL. BAD."
    static void feltByAQuakeThatIsOver() {
        FirstSeconds x = over(1000000);
        x.town(0);
        due.is("felt", x.felt(0, 0), NONE);
        x.deaf(1, true);
        due.is("not over", x.felt(0, 0), 20 - 8);
        x.deaf(1, false);
        due.is("over", x.felt(0, 0), NONE);
        for (int town : beside(0, 0)) due.is("felt in " + town, x.felt(town, 0), BAD);
        for (int quake : beside(0, 0)) due.is("felt by " + quake, x.felt(0, quake), BAD);
    }

    // ---- Promise 22: level

    // "LEVEL k (1 .. 4) needs f (1 .. 60; ..): what it needed. BAD."
    static void levelsAreOneToFour() {
        FirstSeconds x = new FirstSeconds();
        for (int k : beside(1, 4)) {
            for (int f : new int[] {0, 1, 4, 16, 17, 60, 61}) due.is("level " + k + " of " + f, x.level(k, f), BAD);
        }
        for (int k = 4; k >= 1; k--) due.is("level " + k + " at first", x.level(k, 4 * k + 1), 4 * k);
        for (int k = 1; k <= 4; k++) due.is("level " + k, x.level(k, 4 * k), 4 * k + 1);
    }

    // "1 .. 60"
    static void levelsNeedOneToSixty() {
        FirstSeconds x = new FirstSeconds();
        for (int f : new int[] {0, -1, LEAST, LEAST + 1}) due.is("level 1 of " + f, x.level(1, f), BAD);
        due.is("level 1 of 1", x.level(1, 1), 4);
        for (int f : new int[] {61, 62, MOST, MOST - 1}) due.is("level 4 of " + f, x.level(4, f), BAD);
        due.is("level 4 of 60", x.level(4, 60), 16);
        due.is("level 1 of 1 still", x.level(1, 1), 1);
        due.is("level 4 of 60 still", x.level(4, 60), 60);
    }

    // "more than the one below, less than the one above"
    static void levelsKeepTheirOrder() {
        for (int k = 1; k <= 4; k++) {
            FirstSeconds x = new FirstSeconds();
            int was = 4 * k;
            if (k > 1) {
                due.is(k + " as the one below", x.level(k, 4 * k - 4), BAD);
                due.is(k + " below the one below", x.level(k, 4 * k - 5), BAD);
                due.is(k + " just more than the one below", x.level(k, 4 * k - 3), was);
                was = 4 * k - 3;
            }
            if (k < 4) {
                due.is(k + " as the one above", x.level(k, 4 * k + 4), BAD);
                due.is(k + " above the one above", x.level(k, 4 * k + 5), BAD);
                due.is(k + " just less than the one above", x.level(k, 4 * k + 3), was);
                was = 4 * k + 3;
            }
            due.is(k + " as it is", x.level(k, was), was);
        }
    }

    // no room between two: as low as can be, as high as can be
    static void levelsWithoutRoom() {
        FirstSeconds x = new FirstSeconds();
        for (int k = 1; k <= 4; k++) due.is("low " + k, x.level(k, k), 4 * k);
        for (int k = 1; k <= 3; k++) due.is("no more " + k, x.level(k, k + 1), BAD);
        for (int k = 2; k <= 4; k++) due.is("no less " + k, x.level(k, k - 1), BAD);
        for (int k = 4; k >= 1; k--) due.is("high " + k, x.level(k, 56 + k), k);
        for (int k = 1; k <= 3; k++) due.is("no more " + k, x.level(k, 57 + k), BAD);
        for (int k = 2; k <= 4; k++) due.is("no less " + k, x.level(k, 55 + k), BAD);
        due.is("no more", x.level(4, 61), BAD);
        due.is("level 1 of 57", x.level(1, 57), 57);
    }

    // ---- Promise 23: warn

    // none: no quakes, no towns, nothing felt
    static void nothingToTell() {
        FirstSeconds x = new FirstSeconds();
        due.is("nothing at all", x.warn(), 0);
        x.station(0);
        x.pick(0, 0, 1000000);
        due.is("no towns", x.warn(), 0);
        FirstSeconds y = townAtTheQuake(1);
        due.is("felt is 0", y.felt(0, 0), 0);
        due.is("nothing", y.warn(), 0);
        due.is("no messages", y.count(4), 0);
        due.is("no message", y.message(0, 0), NONE);
        FirstSeconds z = over(1000000);
        z.town(0);
        due.is("over, and nothing was told", z.warn(), 0);
    }

    // "FELT at least 4, 8, 12, 16": at it, and one below it
    static void levelsAreToldFromTheirNeedOn() {
        for (int felt = 0; felt <= 19; felt++) {
            FirstSeconds x = townAtTheQuake(Math.min(1000000, 1 << felt));
            due.is("felt", x.felt(0, 0), felt);
            due.is("levels at " + felt, x.warn(), felt / 4);
            due.is("alarm at " + felt, x.alarm(0, 0), felt / 4);
            due.is("messages at " + felt, x.count(4), felt / 4);
            for (int k = 1; k <= felt / 4; k++) message(x, k - 1, 0, 0, k, 10);
        }
    }

    // "(told otherwise)": what level() told, at it and one below it
    static void levelsAreToldFromTheirNewNeedOn() {
        FirstSeconds x = townAtTheQuake(1024);
        due.is("felt", x.felt(0, 0), 10);
        x.level(1, 7);
        x.level(2, 11);
        due.is("level 1", x.warn(), 1);
        x.level(2, 10);
        due.is("level 2", x.warn(), 1);
        due.is("alarm", x.alarm(0, 0), 2);
        x.level(1, 9);
        x.level(2, 11);
        due.is("nothing anew", x.warn(), 0);
        due.is("alarm stays", x.alarm(0, 0), 2);
        FirstSeconds y = townAtTheQuake(2);
        due.is("felt", y.felt(0, 0), 1);
        y.level(1, 2);
        due.is("2 is more", y.warn(), 0);
        y.level(1, 1);
        due.is("1 is felt", y.warn(), 1);
        FirstSeconds z = townAtTheQuake(1);
        z.level(1, 1);
        due.is("0 is none", z.warn(), 0);
    }

    // "that the TOWN was not told for this QUAKE": a town that comes later, a quake that comes later
    static void eachTownAndQuakeOnce() {
        FirstSeconds x = allCells();
        x.pick(0, 0, 1000000);
        due.is("two towns", x.warn(), 4);
        due.is("once", x.warn(), 0);
        x.town(0);
        due.is("a third town", x.warn(), 2);
        message(x, 4, 2, 0, 1, 0);
        message(x, 5, 2, 0, 2, 0);
        x.pick(0, 0, 1000000);
        due.is("another quake", x.warn(), 6);
        message(x, 6, 0, 1, 1, 0);
        message(x, 11, 2, 1, 2, 0);
        due.is("once", x.warn(), 0);
    }

    // as many as there may be: 5 quakes, 6 towns, 4 levels, told and taken back
    static void allThatCanBeTold() {
        FirstSeconds x = oneStation();
        x.station(143);
        x.deaf(1, true);
        for (int town = 0; town < 6; town++) x.town(town);
        for (int k = 1; k <= 4; k++) x.level(k, k);
        for (int quake = 0; quake < 5; quake++) x.pick(0, 0, 1000000);
        long h = x.digest();
        due.is("told", x.warn(), 120);
        for (int i = 0; i < 120; i++) h = mix(h, i / 4 % 6, i / 24, i % 4 + 1, 0);
        due.is("quakes, towns, levels in order", x.digest(), h);
        for (int i = 0; i < 30; i++) due.is("alarm", x.alarm(i % 6, i / 6), 4);
        due.is("once", x.warn(), 0);
        x.later(100000);
        x.deaf(1, false);
        h = x.digest();
        due.is("taken back", x.warn(), 120);
        for (int i = 0; i < 120; i++) h = mix(h, i / 4 % 6, i / 24, -(i % 4 + 1), 100000);
        due.is("quakes, towns, levels in order", x.digest(), h);
        for (int i = 0; i < 30; i++) due.is("alarm", x.alarm(i % 6, i / 6), 0);
        due.is("once", x.warn(), 0);
        due.is("messages", x.count(4), 240);
        message(x, 239, 5, 4, -4, 100000);
        due.is("no more", x.message(240, 0), NONE);
    }

    // "TAKEN BACK, once": also if it is over again
    static void takenBackOnce() {
        FirstSeconds x = over(1000000);
        x.town(0);
        x.deaf(1, true);
        due.is("told", x.warn(), 3);
        x.deaf(1, false);
        due.is("alarm, up to warn()", x.alarm(0, 0), 3);
        due.is("taken back", x.warn(), 3);
        for (int k = 1; k <= 3; k++) message(x, 2 + k, 0, 0, -k, 100);
        due.is("once", x.warn(), 0);
        x.deaf(1, true);
        due.is("told once", x.warn(), 0);
        x.deaf(1, false);
        due.is("once", x.warn(), 0);
        due.is("six", x.count(4), 6);
        due.is("alarm", x.alarm(0, 0), 0);
    }

    // 400 MESSAGES: warn() tells on, and no more are kept
    static void warnBeyondFourHundred() {
        FirstSeconds x = townAtTheQuake(256);
        due.is("felt", x.felt(0, 0), 8);
        drills(x, 1, 399);
        due.is("told", x.warn(), 2);
        message(x, 399, 0, 0, 1, 10);
        for (int what = 0; what <= 3; what++) due.is("not kept", x.message(400, what), NONE);
        due.is("alarm all the same", x.alarm(0, 0), 2);
        due.is("once", x.warn(), 0);
        due.is("no drill", x.drill(0, 1), FULL);
        due.is("all that were told", x.count(4), 401);
    }

    static void takenBackBeyondFourHundred() {
        FirstSeconds x = over(1000000);
        x.town(0);
        x.deaf(1, true);
        due.is("told", x.warn(), 3);
        drills(x, 4, 400);
        due.is("full", x.drill(0, 1), FULL);
        x.deaf(1, false);
        long h = x.digest();
        due.is("taken back", x.warn(), 3);
        due.is("alarm", x.alarm(0, 0), 0);
        due.is("once", x.warn(), 0);
        due.is("digest: of each that is kept", x.digest(), h);
        due.is("not kept", x.message(400, 2), NONE);
        message(x, 399, 0, NONE, 1, 100);
    }

    // ---- Promise 24: drill

    // "a LEVEL (1 .. 4) is told to a TOWN: how many MESSAGES there are"
    static void drillsOfEachLevel() {
        FirstSeconds x = new FirstSeconds();
        x.town(5);
        for (int level : beside(1, 4)) due.is("level " + level, x.drill(0, level), BAD);
        for (int town : beside(0, 0)) due.is("town " + town, x.drill(town, 1), BAD);
        due.is("none", x.count(4), 0);
        for (int level = 1; level <= 4; level++) due.is("drill", x.drill(0, level), level);
        x.later(7);
        due.is("drill", x.drill(0, 4), 5);
        for (int level = 1; level <= 4; level++) message(x, level - 1, 0, NONE, level, 0);
        message(x, 4, 0, NONE, 4, 7);
    }

    // "FULL: 400 MESSAGES"
    static void fourHundredDrills() {
        FirstSeconds x = new FirstSeconds();
        x.town(5);
        drills(x, 1, 400);
        due.is("one more", x.drill(0, 1), FULL);
        due.is("one more", x.drill(0, 4), FULL);
        due.is("400", x.count(4), 400);
        message(x, 0, 0, NONE, 1, 0);
        message(x, 399, 0, NONE, 1, 0);
        for (int i : beside(0, 399)) due.is("message " + i, x.message(i, 0), NONE);
    }

    // 400 of warn() and drill() together
    static void fourHundredOfBoth() {
        FirstSeconds x = townAtTheQuake(256);
        drills(x, 1, 200);
        due.is("told", x.warn(), 2);
        drills(x, 203, 400);
        due.is("one more", x.drill(0, 1), FULL);
        due.is("400", x.count(4), 400);
        message(x, 201, 0, 0, 2, 10);
        message(x, 399, 0, NONE, 1, 10);
    }

    // "A DRILL is a QUAKE of hand": it is none of the quakes, is no alarm, and is never taken back
    static void drillsAreNoWarnings() {
        FirstSeconds x = over(1000000);
        x.town(0);
        due.is("drill", x.drill(0, 4), 1);
        due.is("no alarm", x.alarm(0, 0), 0);
        due.is("not taken back", x.warn(), 0);
        x.deaf(1, true);
        due.is("told all the same", x.warn(), 3);
        due.is("drill", x.drill(0, 4), 5);
        due.is("alarm of what was told", x.alarm(0, 0), 3);
        due.is("one quake", x.count(3), 1);
    }

    // "told to one TOWN as such": to the one that is named, and to no other one
    static void drillsOfOneTownAlone() {
        FirstSeconds x = new FirstSeconds();
        for (int i = 0; i < 6; i++) x.town(i);
        for (int i = 5; i >= 0; i--) due.is("drill in " + i, x.drill(i, 2), 6 - i);
        for (int i = 0; i < 6; i++) message(x, i, 5 - i, NONE, 2, 0);
        due.is("six", x.count(4), 6);
    }

    // ---- Promise 25: message

    // "NONE: none such. BAD: what."
    static void messagesAndWhat() {
        FirstSeconds x = new FirstSeconds();
        x.town(5);
        for (int what = 0; what <= 3; what++) due.is("none", x.message(0, what), NONE);
        for (int what : beside(0, 3)) due.is("none, what " + what, x.message(0, what), BAD);
        drills(x, 1, 3);
        for (int what : beside(0, 3)) {
            due.is("what " + what, x.message(0, what), BAD);
            due.is("what " + what + " of the last", x.message(2, what), BAD);
            due.is("what " + what + " of none", x.message(3, what), BAD);
        }
        for (int i : beside(0, 2)) {
            for (int what = 0; what <= 3; what++) due.is("message " + i, x.message(i, what), NONE);
        }
        message(x, 2, 0, NONE, 1, 0);
    }

    // ---- Promise 26: alarm

    // "The greatest LEVEL that a TOWN was told .. and that is not TAKEN BACK; 0."
    static void alarmsFromNoneToFour() {
        FirstSeconds x = townAtTheQuake(1000000);
        due.is("not told yet", x.alarm(0, 0), 0);
        due.is("warn", x.warn(), 4);
        due.is("four", x.alarm(0, 0), 4);
        x.town(0);
        due.is("a town that comes later", x.alarm(1, 0), 0);
        x.warn();
        due.is("it too", x.alarm(1, 0), 4);
        for (int town : beside(0, 1)) due.is("alarm in " + town, x.alarm(town, 0), BAD);
        for (int quake : beside(0, 0)) due.is("alarm for " + quake, x.alarm(0, quake), BAD);
    }

    // ---- Promise 27: late; Promise 28: left

    // "NOW at most": T and the way at NOW, and one beyond it; "0, if below"
    static void lateByATick() {
        FirstSeconds x = oneCell(1);
        x.town(11);
        x.town(0);
        due.is("T is 0: it comes at 110", x.late(0, 0), 2);
        due.is("left", x.left(0, 0), 100);
        due.is("at cell 0 it came at 0", x.late(1, 0), 1);
        due.is("none left", x.left(1, 0), 0);
        x.later(99);
        due.is("109", x.late(0, 0), 2);
        due.is("one left", x.left(0, 0), 1);
        x.later(1);
        due.is("110", x.late(0, 0), 1);
        due.is("none left", x.left(0, 0), 0);
        x.later(1);
        due.is("111", x.late(0, 0), 1);
        due.is("below none", x.left(0, 0), 0);
        x.later(100000 - 111);
        due.is("100000", x.late(0, 0), 1);
        due.is("far below none", x.left(0, 0), 0);
    }

    // "if for all of its HEAP ..; SAFE STILL, if for none": some T are NOW at most, some beyond
    static void lateForSomeOfTheHeap() {
        FirstSeconds x = new FirstSeconds();
        x.rule(100, 1);
        x.station(0);
        x.station(1);
        x.town(2);
        x.later(20);
        x.pick(0, 9, 1);
        due.is("joins", x.pick(1, 20, 1), 0);
        due.is("one cell", x.quake(0, 1), 1);
        due.is("T is 9 or 10", x.holds(0, 0, 9) + x.holds(0, 0, 10), 2);
        x.later(8);
        due.is("28: it comes at 29 or 30", x.late(0, 0), 2);
        due.is("left", x.left(0, 0), 1);
        x.later(1);
        due.is("29", x.late(0, 0), 0);
        due.is("left: the least", x.left(0, 0), 0);
        x.later(1);
        due.is("30", x.late(0, 0), 1);
        due.is("left", x.left(0, 0), 0);
    }

    // some cells of the heap are late, some are not
    static void lateForSomeCells() {
        FirstSeconds x = allCells();
        x.later(5);
        x.pick(0, 5, 1);
        due.is("at cell 0 all come at 5", x.late(0, 0), 1);
        due.is("at cell 143 between -306 and 316", x.late(1, 0), 0);
        x.later(310);
        due.is("315", x.late(1, 0), 0);
        x.later(1);
        due.is("316", x.late(1, 0), 1);
    }

    // "over its HEAP": no cell that isn't in it counts
    static void leftOverTheHeapAlone() {
        FirstSeconds x = oneCell(1);
        x.town(143);
        x.town(13);
        due.is("155 less 10", x.left(0, 0), 145);
        due.is("safe still", x.late(0, 0), 2);
        due.is("14 less 10", x.left(1, 0), 4);
        due.is("safe still", x.late(1, 0), 2);
    }

    // "for all of its HEAP": a cell near both stations would come far later, and isn't in it
    static void lateOverTheHeapAlone() {
        FirstSeconds x = new FirstSeconds();
        x.rule(100, 0);
        x.station(0);
        x.station(11);
        x.town(137);
        x.later(125);
        x.pick(0, 120, 1);
        due.is("joins", x.pick(1, 125, 1), 0);
        due.is("cell 137 at T 0", x.holds(0, 137, 0), 1);
        due.is("not cell 5", x.time(0, 5, true), NONE);
        due.is("too late", x.late(0, 0), 1);
        due.is("left", x.left(0, 0), 0);
    }

    // "NONE: THE HEAP has no CELL. BAD."
    static void lateForAQuakeThatIsOver() {
        FirstSeconds x = over(1);
        x.town(0);
        x.town(143);
        for (int town = 0; town <= 1; town++) {
            due.is("late", x.late(town, 0), NONE);
            due.is("left", x.left(town, 0), NONE);
        }
        for (int town : beside(0, 1)) {
            due.is("late in " + town, x.late(town, 0), BAD);
            due.is("left in " + town, x.left(town, 0), BAD);
        }
        for (int quake : beside(0, 0)) {
            due.is("late for " + quake, x.late(0, quake), BAD);
            due.is("left for " + quake, x.left(0, quake), BAD);
        }
    }

    // at the end of NOW: what comes to a town lies beyond 100000
    static void leftAtTheEndOfNow() {
        FirstSeconds x = neighbours();
        x.later(100000);
        x.town(143);
        x.town(1);
        x.pick(0, 99990, 1);
        due.is("joins", x.pick(1, 100000, 1), 0);
        due.is("one cell", x.quake(0, 1), 1);
        due.is("99990 and 155", x.left(0, 0), 145);
        due.is("felt: 1 less 8", x.felt(0, 0), 0);
        due.is("nothing is told", x.warn(), 0);
        due.is("safe still", x.late(0, 0), 2);
        due.is("99990 and 10", x.left(1, 0), 0);
        due.is("too late", x.late(1, 0), 1);
        FirstSeconds y = twins(50);
        y.later(100000);
        y.town(0);
        y.pick(0, 100000, 1000000);
        due.is("felt: 20 less the 8 bits of 156", y.felt(0, 0), 12);
        due.is("T is 99950 to 100050", y.late(0, 0), 0);
        due.is("none left", y.left(0, 0), 0);
    }
}
