/** Promises 14 to 20: picks and quakes. */
public final class PicksAndQuakesTest {
    private static final int BAD = FirstSeconds.BAD, FULL = FirstSeconds.FULL, NONE = FirstSeconds.NONE;
    private static final int LEAST = Integer.MIN_VALUE, MOST = Integer.MAX_VALUE;
    private static final int UNLIKE = 3;
    private static final Due due = new Due();

    public static void main(String[] args) {
        picksAreChecked();
        picksJoinTheFirstQuakeThatCanHoldThem();
        aQuakeThatIsOverTakesNoPicks();
        aQuakeMayOpenOver();
        deafStationsPickToo();
        sixtyPicks();
        picksAreTold();
        picksAreMarked();
        quakesAreTold();
        sizesAreBits();
        cellsOfTheHeap();
        timesOfTheHeap();
        theHeapHolds();
        due.end();
    }

    /** Stations 0 and 1 side by side at cells 0 and 1, ten ticks apart, no error. */
    private static FirstSeconds twoStations() {
        FirstSeconds x = new FirstSeconds();
        x.rule(100, 0);
        x.station(0);
        x.station(1);
        return x;
    }

    /** Station 0 at cell 0; its picks say nothing of where a quake is. */
    private static FirstSeconds oneStation() {
        FirstSeconds x = new FirstSeconds();
        x.rule(400, 0);
        x.station(0);
        return x;
    }

    private static void picksAreChecked() {
        FirstSeconds x = new FirstSeconds();
        due.is("pick", x.pick(0, 0, 1), BAD);
        x.station(0);
        x.later(10);
        due.is("pick", x.pick(1, 0, 1), BAD);
        due.is("pick", x.pick(-1, 0, 1), BAD);
        due.is("pick", x.pick(LEAST, 0, 1), BAD);
        due.is("pick", x.pick(0, -1, 1), BAD);
        due.is("pick", x.pick(0, 11, 1), BAD);
        due.is("pick", x.pick(0, LEAST, 1), BAD);
        due.is("pick", x.pick(0, MOST, 1), BAD);
        due.is("pick", x.pick(0, 5, 0), BAD);
        due.is("pick", x.pick(0, 5, 1000001), BAD);
        due.is("pick", x.pick(0, 5, LEAST), BAD);
        due.is("pick", x.pick(0, 5, MOST), BAD);
        due.is("count", x.count(2), 0);
        due.is("pick at NOW", x.pick(0, 10, 1000000), 10);
        due.is("pick at 0", x.pick(0, 0, 1), 11);
    }

    private static void picksJoinTheFirstQuakeThatCanHoldThem() {
        FirstSeconds x = twoStations();
        x.later(50);
        due.is("opens", x.pick(0, 50, 1), 10);
        due.is("its station is in 0: opens", x.pick(0, 44, 1), 11);
        x.deaf(1, true);
        x.later(50);
        due.is("ten ticks on is the most", x.pick(1, 61, 1), 12);
        // at cell 12 the ways are 10 and 14, at cell 0 they are 0 and 10
        due.is("0 and 1 could: the first does", x.pick(1, 54, 1), 0);
        due.is("0 has its station: 1 does", x.pick(1, 54, 1), 1);
        due.is("no more have none of station 1", x.pick(1, 53, 1), 13);
        due.is("2 is over: station 0 should have heard it", x.quake(2, 4), 1);
        x.deaf(0, true);
        due.is("over no more: joins 2", x.pick(0, 60, 1), 2);
        due.is("count", x.count(3), 4);
        due.is("opens", x.pick(0, 7, 1), 14);
        due.is("loose", x.pick(0, 7, 1), NONE);
        due.is("five quakes", x.count(3), 5);
        due.is("loose ones count as picks", x.count(2), 9);
    }

    private static void aQuakeThatIsOverTakesNoPicks() {
        FirstSeconds x = twoStations();
        x.later(100);
        due.is("opens", x.pick(0, 100, 1), 10);
        x.later(10);
        due.is("not over: station 1 may hear it now", x.quake(0, 4), 0);
        x.later(1);
        due.is("over: it should have been heard", x.quake(0, 4), 1);
        due.is("with this pick it would have a cell", x.pick(1, 110, 1), 11);
        due.is("over still", x.quake(0, 4), 1);
        x.deaf(1, true);
        due.is("over no more", x.quake(0, 4), 0);
        due.is("joins", x.pick(1, 110, 1), 0);
        x.deaf(1, false);
        due.is("it is heard", x.quake(0, 4), 0);
    }

    private static void aQuakeMayOpenOver() {
        FirstSeconds x = twoStations();
        x.later(100);
        due.is("opens", x.pick(0, 10, 1), 10);
        due.is("no cell", x.quake(0, 1), 0);
        due.is("over", x.quake(0, 4), 1);
        due.is("opens", x.pick(1, 10, 1), 11);
    }

    private static void deafStationsPickToo() {
        FirstSeconds x = twoStations();
        x.deaf(0, true);
        x.deaf(1, true);
        x.later(20);
        due.is("opens", x.pick(0, 10, 1), 10);
        due.is("ten ticks nearer to station 1", x.pick(1, 0, 1), 0);
        due.is("both bind: no cell at x 0", x.holds(0, 0, 10), 0);
    }

    private static void sixtyPicks() {
        FirstSeconds x = oneStation();
        for (int i = 0; i < 60; i++) due.is("pick", x.pick(0, 0, 1), i < 5 ? 10 + i : NONE);
        due.is("pick", x.pick(0, 0, 1), FULL);
        due.is("BAD is ahead of FULL", x.pick(0, 1, 1), BAD);
        due.is("count", x.count(2), 60);
        due.is("told", x.told(59, 3), 3);
        due.is("told", x.told(60, 3), BAD);
    }

    /** Picks 0 (opens), 1 (joins), 2 to 5 (open), 6 (loose). */
    private static FirstSeconds sevenPicks() {
        FirstSeconds x = twoStations();
        x.deaf(0, true);
        x.deaf(1, true);
        x.later(500);
        x.pick(0, 100, 11);
        x.pick(1, 104, 12);
        for (int i = 2; i <= 6; i++) x.pick(1, 100 * i, 11 + i - 1);
        return x;
    }

    private static void picksAreTold() {
        FirstSeconds x = new FirstSeconds();
        due.is("told", x.told(0, 0), BAD);
        x = sevenPicks();
        due.is("count", x.count(2), 6);
        due.is("loose", x.pick(1, 77, 17), NONE);
        int[][] picks = {
            {0, 0, 100, 11, 2, 0}, {1, 1, 104, 12, 1, 0}, {2, 1, 200, 12, 2, 1}, {5, 1, 500, 15, 2, 4}, {6, 1, 77, 17, 3, NONE},
        };
        for (int[] p : picks) {
            for (int what = 0; what <= 4; what++) due.is("told " + p[0] + " " + what, x.told(p[0], what), p[1 + what]);
        }
        due.is("told", x.told(0, -1), BAD);
        due.is("told", x.told(0, 5), BAD);
        due.is("told", x.told(-1, 0), BAD);
        due.is("told", x.told(7, 0), BAD);
        due.is("told", x.told(LEAST, MOST), BAD);
    }

    private static void picksAreMarked() {
        FirstSeconds x = new FirstSeconds();
        due.is("mark", x.mark(0, 0), BAD);
        x = sevenPicks();
        x.pick(1, 77, 17);
        due.is("any", x.mark(0, 0), 100);
        due.is("any", x.mark(1, 0), 104);
        due.is("any", x.mark(6, 0), 77);
        due.is("an opening one is a joined one", x.mark(5, 1), 4);
        due.is("joined", x.mark(1, 1), 0);
        due.is("opening", x.mark(5, 2), 4);
        due.is("loose", x.mark(6, 3), 77);
        due.is("finding", x.finding(), 0);
        due.finds("joined, not opening", x, x.mark(1, 2), UNLIKE, 1);
        due.finds("joined, not loose", x, x.mark(1, 3), UNLIKE, 2);
        due.finds("opening, not loose", x, x.mark(0, 3), UNLIKE, 3);
        due.finds("loose, not joined", x, x.mark(6, 1), UNLIKE, 4);
        due.finds("loose, not opening", x, x.mark(6, 2), UNLIKE, 5);
        due.is("mark", x.mark(0, -1), BAD);
        due.is("mark", x.mark(0, 4), BAD);
        due.is("mark", x.mark(7, 0), BAD);
        due.is("mark", x.mark(-1, 0), BAD);
        due.is("mark", x.mark(LEAST, MOST), BAD);
        due.is("BAD is no finding", x.findings(UNLIKE), 5);
    }

    private static void quakesAreTold() {
        FirstSeconds x = twoStations();
        due.is("quake", x.quake(0, 0), BAD);
        x.later(10);
        x.pick(0, 10, 3);
        due.is("picks", x.quake(0, 0), 1);
        due.is("not over", x.quake(0, 4), 0);
        x.pick(1, 10, 9);
        due.is("picks", x.quake(0, 0), 2);
        // cells as far from 0 as from 1, when cut: none at x 0 or 1 but high up
        FirstSeconds map = twoStations();
        for (int cell = 0; cell < 144; cell++) {
            int way = map.travel(cell, 0);
            boolean even = way == map.travel(cell, 1);
            due.is("cell " + cell, x.holds(0, cell, 10 - way), even ? 1 : 0);
        }
        due.is("quake", x.quake(0, -1), BAD);
        due.is("quake", x.quake(0, 5), BAD);
        due.is("quake", x.quake(1, 0), BAD);
        due.is("quake", x.quake(-1, 0), BAD);
        due.is("quake", x.quake(LEAST, MOST), BAD);

        FirstSeconds y = twoStations();
        y.pick(0, 0, 3);
        y.later(100);
        due.is("no cell", y.quake(0, 1), 0);
        due.is("no low", y.quake(0, 2), NONE);
        due.is("no high", y.quake(0, 3), NONE);
        due.is("over", y.quake(0, 4), 1);
        due.is("picks stay", y.quake(0, 0), 1);
    }

    private static void sizesAreBits() {
        FirstSeconds x = oneStation();
        x.pick(0, 0, 1000000);
        due.is("cells", x.quake(0, 1), 144);
        due.is("low: 1000000 by 1", x.quake(0, 2), 20);
        due.is("high: 1000000 by 312", x.quake(0, 3), 29);
        FirstSeconds y = oneStation();
        y.pick(0, 0, 1);
        due.is("low: 1", y.quake(0, 2), 1);
        due.is("high: 312", y.quake(0, 3), 9);
        FirstSeconds z = twoStations();
        z.deaf(0, true);
        z.deaf(1, true);
        z.later(100);
        z.pick(0, 50, 7);
        z.pick(1, 40, 1000);
        // only the cells of the row up from cell 1 on: ten ticks nearer to station 1
        due.is("low: the first pick's, 7 by 11", z.quake(0, 2), 7);
        due.is("high: the first pick's, 7 by 111", z.quake(0, 3), 10);
    }

    private static void cellsOfTheHeap() {
        FirstSeconds x = twoStations();
        due.is("cell", x.cell(0, 0), BAD);
        x.deaf(1, true);
        x.pick(0, 0, 1);
        for (int i = 0; i < 144; i++) due.is("cell", x.cell(0, i), i);
        due.is("cell", x.cell(0, 144), NONE);
        due.is("cell", x.cell(0, -1), NONE);
        due.is("cell", x.cell(0, LEAST), NONE);
        due.is("cell", x.cell(0, MOST), NONE);
        due.is("cell", x.cell(1, 0), BAD);
        due.is("cell", x.cell(-1, 0), BAD);
        x.later(10);
        x.pick(1, 10, 1);
        due.is("ten ticks nearer to 0: x is 0, and low", x.cell(0, 0), 0);
        due.is("none else", x.cell(0, 1), NONE);
        due.is("low of one cell", x.quake(0, 2), 1);
        due.is("high of one cell", x.quake(0, 3), 1);
        FirstSeconds y = twoStations();
        y.pick(0, 0, 1);
        y.later(100);
        due.is("no cell", y.cell(0, 0), NONE);
    }

    private static void timesOfTheHeap() {
        FirstSeconds x = new FirstSeconds();
        due.is("time", x.time(0, 0, false), BAD);
        x.rule(100, 3);
        x.station(0);
        x.station(1);
        x.later(10);
        x.pick(0, 10, 1);
        due.is("first", x.time(0, 0, false), 1);
        due.is("first", x.asked(), 7);
        due.is("last", x.time(0, 0, true), 1);
        due.is("last", x.asked(), 13);
        due.is("at station 1, no sooner than now less the error", x.time(0, 1, false), NONE);
        due.is("asked stays", x.asked(), 13);
        due.is("as far from both", x.time(0, 132, false), 1);
        due.is("110 off", x.asked(), 10 - 110 - 3);
        x.later(2);
        due.is("as far from both", x.time(0, 132, false), 1);
        due.is("it should have come to 1", x.asked(), 12 - 110 - 3);
        due.is("last", x.time(0, 132, true), 1);
        due.is("last", x.asked(), 13 - 110);
        due.is("time", x.time(0, -1, false), BAD);
        due.is("time", x.time(0, 144, false), BAD);
        due.is("time", x.time(1, 0, false), BAD);
        due.is("time", x.time(-1, 0, true), BAD);
        due.is("time", x.time(LEAST, MOST, true), BAD);
        due.is("asked stays", x.asked(), -97);
        x.later(0);
        due.is("later(0) changes nothing", x.quake(0, 4), 0);
    }

    private static void theHeapHolds() {
        FirstSeconds x = new FirstSeconds();
        due.is("holds", x.holds(0, 0, 0), BAD);
        x.rule(100, 50);
        x.station(0);
        x.later(100000);
        x.pick(0, 60, 1);
        due.is("holds", x.holds(0, 0, 9), 0);
        due.is("holds", x.holds(0, 0, 10), 1);
        due.is("holds", x.holds(0, 0, 110), 1);
        due.is("holds", x.holds(0, 0, 111), 0);
        due.is("holds", x.holds(0, 1, 0), 1);
        due.is("holds", x.holds(0, 143, 60 - 155 - 50), 1);
        due.is("holds", x.holds(0, 143, 60 - 155 - 51), 0);
        due.is("holds", x.holds(0, 0, LEAST), 0);
        due.is("holds", x.holds(0, 0, MOST), 0);
        due.is("holds", x.holds(0, 144, 0), BAD);
        due.is("holds", x.holds(0, -1, 0), BAD);
        due.is("holds", x.holds(1, 0, 0), BAD);
        due.is("holds", x.holds(-1, 0, 0), BAD);
        FirstSeconds y = twoStations();
        y.pick(0, 0, 1);
        y.later(100);
        for (int t = -10; t <= 110; t++) due.is("a quake that is over holds none", y.holds(0, 0, t), 0);
    }
}
