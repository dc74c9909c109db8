/** Promises 1 to 13: a new object, the map, the rows. */
public final class MapAndRowsTest {
    private static final int BAD = FirstSeconds.BAD, FULL = FirstSeconds.FULL;
    private static final int STATE = FirstSeconds.STATE, NONE = FirstSeconds.NONE;
    private static final int LEAST = Integer.MIN_VALUE, MOST = Integer.MAX_VALUE;
    private static final int NOTHING = 1, BEYOND = 2, NOUGHT = 4, SIZE = 5;
    private static final Due due = new Due();

    public static void main(String[] args) {
        aNewObject();
        ruleSetsSlownessAndError();
        stationsAreNumbered();
        townsAreNumbered();
        stationsAreDeaf();
        travelIsCut();
        nowGoesOn();
        rowsBegin();
        readingsAreLaid();
        rowsAreTorn();
        readingsAreCopied();
        meanIsCut();
        firstPickOfARow();
        due.end();
    }

    private static void lay(FirstSeconds x, int station, int... readings) {
        due.is("row", x.row(station, readings.length), readings.length);
        for (int i = 0; i < readings.length; i++) due.is("lay", x.lay(station, i, readings[i]), 1);
    }

    private static void reads(FirstSeconds x, int station, int... readings) {
        for (int i = 0; i < readings.length; i++) {
            due.is("lay", x.lay(station, i, 0), 1);
            due.is("reading " + i, x.asked(), readings[i]);
            x.lay(station, i, readings[i]);
        }
        due.is("no more readings", x.lay(station, readings.length, 0), FirstSeconds.FINDING);
    }

    private static void aNewObject() {
        FirstSeconds x = new FirstSeconds();
        for (int what = 0; what <= 5; what++) due.is("count", x.count(what), 0);
        due.is("asked", x.asked(), 0);
        due.is("finding", x.finding(), 0);
        for (int f = 1; f <= 5; f++) due.is("findings", x.findings(f), 0);
        due.is("slowness 100", x.travel(0, 1), 10);
        due.is("message", x.message(0, 0), NONE);
        due.is("level 4", x.level(4, 17), 16);
        due.is("level 3", x.level(3, 13), 12);
        due.is("level 2", x.level(2, 9), 8);
        due.is("level 1", x.level(1, 5), 4);
        due.is("digest", x.digest(), 17 * 31);
        due.is("station", x.station(5), 0);
        due.is("row is missing", x.digest(), (17L * 31) * 31 - 1);
        due.is("pick", x.pick(0, 0, 1), 10);
        due.is("error 2", x.time(0, 5, true), 1);
        due.is("error 2", x.asked(), 2);
    }

    private static void ruleSetsSlownessAndError() {
        FirstSeconds x = new FirstSeconds();
        due.is("rule", x.rule(1, 0), 1);
        due.is("travel", x.travel(0, 143), 15);
        due.is("rule", x.rule(400, 50), 1);
        due.is("travel", x.travel(0, 143), 311);
        due.is("rule", x.rule(0, 2), BAD);
        due.is("rule", x.rule(401, 2), BAD);
        due.is("rule", x.rule(LEAST, 2), BAD);
        due.is("rule", x.rule(MOST, 2), BAD);
        due.is("rule", x.rule(100, -1), BAD);
        due.is("rule", x.rule(100, 51), BAD);
        due.is("rule", x.rule(100, LEAST), BAD);
        due.is("rule", x.rule(100, MOST), BAD);
        due.is("refused changes nothing", x.travel(0, 143), 311);
        x.station(7);
        due.is("rule with stations", x.rule(25, 3), 1);
        due.is("travel", x.travel(7, 8), 5);
        x.pick(0, 0, 1);
        due.is("rule", x.rule(100, 2), STATE);
        due.is("BAD is ahead of STATE", x.rule(0, 2), BAD);
        due.is("travel", x.travel(7, 8), 5);
        due.is("the error of rule", x.time(0, 7, true), 1);
        due.is("the error of rule", x.asked(), 3);
        due.is("finding", x.finding(), 0);
    }

    private static void stationsAreNumbered() {
        FirstSeconds x = new FirstSeconds();
        due.is("station", x.station(-1), BAD);
        due.is("station", x.station(144), BAD);
        due.is("station", x.station(LEAST), BAD);
        due.is("station", x.station(MOST), BAD);
        due.is("count", x.count(0), 0);
        due.is("station", x.station(143), 0);
        due.is("station", x.station(143), 1);
        due.is("count", x.count(0), 2);
        x.pick(0, 0, 1);
        due.is("station", x.station(0), STATE);
        due.is("BAD is ahead of STATE", x.station(144), BAD);
        due.is("count", x.count(0), 2);

        FirstSeconds y = new FirstSeconds();
        for (int i = 0; i < 10; i++) due.is("station", y.station(i), i);
        due.is("station", y.station(10), FULL);
        due.is("BAD is ahead of FULL", y.station(-1), BAD);
        y.pick(9, 0, 1);
        due.is("FULL is ahead of STATE", y.station(10), FULL);
        due.is("count", y.count(0), 10);
    }

    private static void townsAreNumbered() {
        FirstSeconds x = new FirstSeconds();
        due.is("town", x.town(-1), BAD);
        due.is("town", x.town(144), BAD);
        due.is("town", x.town(LEAST), BAD);
        due.is("town", x.town(MOST), BAD);
        due.is("town", x.town(0), 0);
        x.station(0);
        x.pick(0, 0, 1);
        for (int i = 1; i < 6; i++) due.is("town, also with picks", x.town(143), i);
        due.is("town", x.town(1), FULL);
        due.is("BAD is ahead of FULL", x.town(144), BAD);
        due.is("count", x.count(1), 6);
    }

    private static void stationsAreDeaf() {
        FirstSeconds x = new FirstSeconds();
        due.is("deaf", x.deaf(0, true), BAD);
        x.rule(100, 0);
        x.station(0);
        x.station(1);
        due.is("deaf", x.deaf(1, false), 0);
        due.is("deaf", x.deaf(1, true), 0);
        due.is("deaf", x.deaf(1, true), 1);
        due.is("deaf", x.deaf(2, true), BAD);
        due.is("deaf", x.deaf(-1, true), BAD);
        due.is("deaf", x.deaf(LEAST, true), BAD);
        due.is("deaf", x.deaf(MOST, true), BAD);
        x.pick(0, 0, 1);
        x.later(100);
        due.is("a deaf station says nothing", x.quake(0, 1), 144);
        due.is("deaf", x.deaf(1, false), 1);
        due.is("it has not heard", x.quake(0, 1), 0);
        due.is("deaf", x.deaf(1, false), 0);
    }

    private static void travelIsCut() {
        FirstSeconds x = new FirstSeconds();
        due.is("travel", x.travel(5, 5), 0);
        due.is("travel", x.travel(0, 13), 14);
        due.is("travel", x.travel(13, 0), 14);
        due.is("travel", x.travel(11, 12), 110);
        due.is("travel", x.travel(11, 132), 155);
        due.is("travel", x.travel(40, 0), 50);
        due.is("travel", x.travel(-1, 0), BAD);
        due.is("travel", x.travel(0, -1), BAD);
        due.is("travel", x.travel(144, 0), BAD);
        due.is("travel", x.travel(0, 144), BAD);
        due.is("travel", x.travel(LEAST, MOST), BAD);
        for (int q = 1; q <= 400; q++) {
            FirstSeconds y = new FirstSeconds();
            y.rule(q, 0);
            for (int other = 0; other < 144; other++) {
                long square = (long) q * ((other / 12) * (other / 12) + (other % 12) * (other % 12));
                long t = y.travel(0, other);
                if (t * t > square || (t + 1) * (t + 1) <= square) due.is("travel at " + q + " to " + other, t, -1);
            }
        }
    }

    private static void nowGoesOn() {
        FirstSeconds x = new FirstSeconds();
        due.is("later", x.later(0), 0);
        due.is("later", x.later(7), 7);
        due.is("later", x.later(5), 12);
        due.is("later", x.later(-1), BAD);
        due.is("later", x.later(LEAST), BAD);
        due.is("later", x.later(MOST), BAD);
        due.is("later", x.later(99989), BAD);
        due.is("now", x.count(5), 12);
        due.is("later", x.later(99988), 100000);
        due.is("later", x.later(0), 100000);
        due.is("later", x.later(1), BAD);
    }

    private static void rowsBegin() {
        FirstSeconds x = new FirstSeconds();
        due.is("row", x.row(0, 1), BAD);
        x.station(0);
        due.is("row", x.row(0, 30), 30);
        due.is("lay", x.lay(0, 29, 5), 1);
        due.is("lay", x.lay(0, 0, 5), 1);
        due.is("row", x.row(0, 31), BAD);
        due.is("row", x.row(0, MOST), BAD);
        due.is("row", x.row(1, 1), BAD);
        due.is("row", x.row(-1, 1), BAD);
        due.is("BAD is ahead of SIZE", x.row(1, -1), BAD);
        due.is("finding", x.finding(), 0);
        due.finds("row", x, x.row(0, -1), SIZE, 1);
        due.finds("row", x, x.row(0, LEAST), SIZE, 2);
        due.is("refused changes nothing", x.lay(0, 29, 6), 1);
        due.is("asked", x.asked(), 5);
        due.is("row again", x.row(0, 30), 30);
        due.is("all are 0", x.lay(0, 29, 6), 1);
        due.is("asked", x.asked(), 0);
        due.is("all are 0", x.lay(0, 0, 6), 1);
        due.is("asked", x.asked(), 0);
        due.is("row", x.row(0, 0), 0);
        due.is("a row of none is no missing one", x.tear(0), 1);
    }

    private static void readingsAreLaid() {
        FirstSeconds x = new FirstSeconds();
        due.is("lay", x.lay(0, 0, 1), BAD);
        x.station(0);
        due.finds("lay", x, x.lay(0, 0, 1), NOTHING, 1);
        due.finds("NOTHING is ahead of BEYOND", x, x.lay(0, -1, 1), NOTHING, 2);
        x.row(0, 3);
        due.is("lay", x.lay(0, 2, 100000), 1);
        due.is("asked", x.asked(), 0);
        due.is("lay", x.lay(0, 2, -100000), 1);
        due.is("asked", x.asked(), 100000);
        due.is("lay", x.lay(0, 0, 4), 1);
        due.is("asked", x.asked(), 0);
        due.is("lay", x.lay(0, 2, 100001), BAD);
        due.is("lay", x.lay(0, 2, -100001), BAD);
        due.is("lay", x.lay(0, 2, LEAST), BAD);
        due.is("lay", x.lay(0, 2, MOST), BAD);
        due.is("lay", x.lay(1, 0, 0), BAD);
        due.is("BAD is ahead of BEYOND", x.lay(0, 3, 100001), BAD);
        due.finds("lay", x, x.lay(0, 3, 1), BEYOND, 1);
        due.finds("lay", x, x.lay(0, -1, 1), BEYOND, 2);
        due.finds("lay", x, x.lay(0, LEAST, 1), BEYOND, 3);
        due.finds("lay", x, x.lay(0, MOST, 1), BEYOND, 4);
        due.is("refused tells nothing", x.asked(), 0);
        reads(x, 0, 4, 0, -100000);
    }

    private static void rowsAreTorn() {
        FirstSeconds x = new FirstSeconds();
        due.is("tear", x.tear(0), BAD);
        x.station(0);
        x.station(1);
        due.finds("tear", x, x.tear(0), NOTHING, 1);
        x.row(0, 2);
        x.row(1, 2);
        due.is("tear", x.tear(0), 1);
        due.finds("tear", x, x.tear(0), NOTHING, 2);
        due.finds("lay", x, x.lay(0, 0, 0), NOTHING, 3);
        due.is("the other one stays", x.lay(1, 0, 0), 1);
        due.is("tear", x.tear(2), BAD);
        due.is("tear", x.tear(-1), BAD);
        due.is("tear", x.tear(LEAST), BAD);
    }

    private static void readingsAreCopied() {
        FirstSeconds x = new FirstSeconds();
        due.is("copy", x.copy(0, 0, 0, 0, 0), BAD);
        x.station(0);
        x.station(1);
        due.is("BAD is ahead of SIZE", x.copy(2, 0, 0, 0, -1), BAD);
        due.is("BAD is ahead of SIZE", x.copy(0, 0, 2, 0, -1), BAD);
        due.is("copy", x.copy(-1, 0, 0, 0, 1), BAD);
        due.is("copy", x.copy(0, 0, -1, 0, 1), BAD);
        due.is("finding", x.finding(), 0);
        due.finds("SIZE is ahead of NOTHING", x, x.copy(0, 0, 1, 0, -1), SIZE, 1);
        due.finds("copy", x, x.copy(0, 0, 1, 0, LEAST), SIZE, 2);
        lay(x, 0, 1, 2, 3, 4, 5, 6);
        due.finds("NOTHING is ahead of BEYOND", x, x.copy(0, 9, 1, 9, 1), NOTHING, 1);
        due.finds("NOTHING is ahead of BEYOND", x, x.copy(1, 9, 0, 9, 1), NOTHING, 2);
        lay(x, 1, 7, 8, 9);
        due.finds("from beyond", x, x.copy(0, 4, 1, 0, 3), BEYOND, 1);
        due.finds("to beyond", x, x.copy(0, 0, 1, 1, 3), BEYOND, 2);
        due.finds("from ahead", x, x.copy(0, -1, 1, 0, 1), BEYOND, 3);
        due.finds("to ahead", x, x.copy(0, 0, 1, -1, 1), BEYOND, 4);
        due.finds("none from ahead", x, x.copy(0, -1, 1, 0, 0), BEYOND, 5);
        due.finds("far", x, x.copy(0, MOST, 1, 0, MOST), BEYOND, 6);
        due.finds("far", x, x.copy(0, 1, 1, 1, MOST), BEYOND, 7);
        due.finds("far", x, x.copy(0, LEAST, 1, LEAST, MOST), BEYOND, 8);
        due.finds("none from beyond the end", x, x.copy(0, 7, 1, 0, 0), BEYOND, 9);
        reads(x, 1, 7, 8, 9);
        due.is("none at the ends", x.copy(0, 6, 1, 3, 0), 1);
        due.is("copy", x.copy(0, 3, 1, 1, 2), 1);
        reads(x, 1, 7, 4, 5);
        reads(x, 0, 1, 2, 3, 4, 5, 6);
        due.is("onto itself, on", x.copy(0, 0, 0, 2, 4), 1);
        reads(x, 0, 1, 2, 1, 2, 3, 4);
        due.is("onto itself, back", x.copy(0, 2, 0, 1, 4), 1);
        reads(x, 0, 1, 1, 2, 3, 4, 4);
        int before = x.asked();
        x.copy(0, 0, 1, 0, 1);
        due.is("copy tells nothing", x.asked(), before);
    }

    private static void meanIsCut() {
        FirstSeconds x = new FirstSeconds();
        due.is("mean", x.mean(0), BAD);
        x.station(0);
        due.finds("mean", x, x.mean(0), NOTHING, 1);
        x.row(0, 0);
        due.finds("mean", x, x.mean(0), NOUGHT, 1);
        due.is("mean", x.mean(1), BAD);
        due.is("mean", x.mean(-1), BAD);
        lay(x, 0, -3, 3, -2);
        due.is("mean", x.mean(0), 2);
        lay(x, 0, -1, 0);
        due.is("mean", x.mean(0), 0);
        x.row(0, 30);
        for (int i = 0; i < 30; i++) x.lay(0, i, -100000);
        due.is("mean", x.mean(0), 100000);
    }

    private static void firstPickOfARow() {
        FirstSeconds x = new FirstSeconds();
        due.is("first", x.first(0, 1, 1, 1, 1), BAD);
        x.station(0);
        due.finds("first", x, x.first(0, 1, 1, 1, 1), NOTHING, 1);
        due.is("BAD is ahead of NOTHING", x.first(0, 0, 1, 1, 1), BAD);
        x.row(0, 0);
        due.is("a row of none", x.first(0, 1, 1, 1, 1), NONE);
        lay(x, 0, 2, 2, -2, 4, 2, 5);
        due.is("above, not at it", x.first(0, 1, 1, 2, 1), 5);
        due.is("a by b", x.first(0, 1, 1, 19, 10), 3);
        due.is("sizes, without signs", x.first(0, 2, 2, 1, 1), 2);
        due.is("up to the end", x.first(0, 2, 4, 1, 1), 4);
        due.is("s places ahead of the end", x.first(0, 3, 4, 1, 1), NONE);
        due.is("from l on", x.first(0, 1, 3, 1, 1), 3);
        due.is("s and l share", x.first(0, 1, 5, 2, 1), 5);
        due.is("s and l share", x.first(0, 1, 5, 21, 10), NONE);
        int[][] bad = {
            {0, 1, 1, 1}, {11, 1, 1, 1}, {1, 0, 1, 1}, {1, 11, 1, 1}, {1, 1, 0, 1}, {1, 1, 1001, 1},
            {1, 1, 1, 0}, {1, 1, 1, 1001}, {LEAST, 1, 1, 1}, {1, MOST, 1, 1}, {1, 1, LEAST, 1}, {1, 1, 1, MOST},
        };
        for (int[] b : bad) due.is("first", x.first(0, b[0], b[1], b[2], b[3]), BAD);
        due.is("first", x.first(1, 1, 1, 1, 1), BAD);
        x.row(0, 30);
        for (int i = 10; i < 30; i++) x.lay(0, i, 100000);
        for (int i = 0; i < 10; i++) x.lay(0, i, -100000);
        due.is("large numbers", x.first(0, 10, 10, 999, 1000), 10);
        due.is("large numbers", x.first(0, 10, 10, 1000, 1000), NONE);
        due.is("large numbers", x.first(0, 10, 10, 1000, 999), NONE);
        due.is("finding", x.findings(1), 1);
    }
}
