/** The edges of "1 THE MAP" and of promises 1 to 7; above each test the document's words. */
public final class EdgesOfTheMapTest extends Edges {
    public static void main(String[] args) throws ReflectiveOperationException {
        runAll(EdgesOfTheMapTest.class);
    }

    // ---- Promise 1: a new object

    // "No STATIONS, TOWNS, PICKS."
    static void aNewObjectHasNone() {
        FirstSeconds x = new FirstSeconds();
        for (int what = 0; what <= 5; what++) due.is("count " + what, x.count(what), 0);
        noStation(x, 0);
        noTown(x, 0);
        noPick(x, 0);
        noQuake(x, 0);
        due.is("no message", x.message(0, 0), NONE);
        due.is("nothing to tell", x.warn(), 0);
        due.is("digest: NOW alone", x.digest(), 17 * 31);
    }

    // ---- CELLS (x, y), 0 .. 11 each, number 12 y and x

    static void cellsAreNoneToHundredFortyThree() {
        for (int cell : beside(0, 143)) {
            FirstSeconds x = oneStation();
            x.town(0);
            x.pick(0, 0, 1);
            due.is("travel from " + cell, x.travel(cell, 0), BAD);
            due.is("travel to " + cell, x.travel(0, cell), BAD);
            due.is("travel at " + cell, x.travel(cell, cell), BAD);
            due.is("town at " + cell, x.town(cell), BAD);
            due.is("first time at " + cell, x.time(0, cell, false), BAD);
            due.is("last time at " + cell, x.time(0, cell, true), BAD);
            due.is("holds at " + cell, x.holds(0, cell, 0), BAD);
            due.is("one town", x.count(1), 1);
            FirstSeconds y = new FirstSeconds();
            due.is("station at " + cell, y.station(cell), BAD);
            due.is("no station", y.count(0), 0);
        }
        for (int cell : new int[] {0, 143}) {
            FirstSeconds x = new FirstSeconds();
            x.rule(400, 0);
            due.is("station at " + cell, x.station(cell), 0);
            due.is("town at " + cell, x.town(cell), 0);
            due.is("travel at " + cell, x.travel(cell, cell), 0);
            x.pick(0, 0, 1);
            due.is("time at " + cell, x.time(0, cell, true), 1);
            due.is("holds at " + cell, x.holds(0, cell, 0), 1);
        }
    }

    // a row of cells ends at x 11: the next number is at x 0, one up
    static void cellsAreTwelveToARow() {
        FirstSeconds x = new FirstSeconds();
        due.is("along", x.travel(0, 11), 110);
        due.is("up", x.travel(0, 12), 10);
        due.is("from the end of a row to the next one", x.travel(11, 12), 110);
        due.is("from the end of a row, up", x.travel(11, 23), 10);
        due.is("all up", x.travel(0, 132), 110);
        due.is("along the last row", x.travel(132, 143), 110);
        due.is("up the last column", x.travel(143, 11), 110);
        due.is("from corner to corner", x.travel(0, 143), 155);
        due.is("from corner to corner, aslant", x.travel(132, 11), 155);
    }

    // ---- Promise 2: rule

    // "THE SLOWNESS is q (1 .. 400; 100 at first)"
    static void slownessIsOneToFourHundred() {
        FirstSeconds x = new FirstSeconds();
        due.is("100 at first", x.travel(0, 1), 10);
        due.is("rule", x.rule(1, 2), 1);
        due.is("travel at 1", x.travel(0, 143), 15);
        due.is("rule", x.rule(400, 2), 1);
        due.is("travel at 400", x.travel(0, 143), 311);
        for (int q : beside(1, 400)) {
            due.is("rule of " + q, x.rule(q, 2), BAD);
            due.is("travel at 400 still", x.travel(0, 143), 311);
        }
    }

    // "THE ERROR is e ticks (0 .. 50; 2 at first)"
    static void errorIsNoneToFifty() {
        FirstSeconds x = new FirstSeconds();
        x.station(0);
        hasError(x, 2);
        for (int e : new int[] {0, 1, 50}) {
            FirstSeconds y = new FirstSeconds();
            due.is("rule", y.rule(100, e), 1);
            y.station(0);
            for (int bad : beside(0, 50)) due.is("rule of error " + bad, y.rule(400, bad), BAD);
            due.is("slowness 100 still", y.travel(0, 1), 10);
            hasError(y, e);
        }
    }

    /** Station 0 is at cell 0, and NOW is 0. */
    private static void hasError(FirstSeconds x, int e) {
        x.pick(0, 0, 1);
        due.is("time", x.time(0, 0, false), 1);
        due.is("first of error " + e, x.asked(), -e);
        due.is("time", x.time(0, 0, true), 1);
        due.is("last of error " + e, x.asked(), e);
    }

    // "STATE: there are PICKS": up to the first one it may be called, from then on never
    static void ruleComesAheadOfThePicks() {
        FirstSeconds x = new FirstSeconds();
        due.is("none at all", x.rule(100, 2), 1);
        due.is("again", x.rule(100, 0), 1);
        x.station(0);
        x.town(0);
        x.row(0, 3);
        x.later(100);
        due.is("stations, towns, rows, NOW", x.rule(100, 0), 1);
        due.is("a pick that is refused", x.pick(0, 101, 1), BAD);
        due.is("is none", x.rule(100, 0), 1);
        due.is("a pick", x.pick(0, 100, 1), 10);
        due.is("rule", x.rule(100, 0), STATE);
        due.is("rule", x.rule(400, 50), STATE);
        due.is("slowness 100 still", x.travel(0, 1), 10);
        due.is("no error still", x.holds(0, 0, 101), 0);
        for (int i = 0; i < 4; i++) x.pick(0, 100, 1);
        due.is("a loose one", x.pick(0, 100, 1), NONE);
        due.is("rule", x.rule(400, 50), STATE);
        FirstSeconds y = over(1);
        due.is("all quakes are over", y.rule(400, 50), STATE);
    }

    // ---- Promise 3: station; Promise 4: town

    // "STATIONS 0, 1, .. (10 at most)"; "A STATION at a CELL: its number. BAD; FULL; STATE"
    static void tenStations() {
        FirstSeconds x = new FirstSeconds();
        for (int i = 0; i < 10; i++) {
            noStation(x, i);
            due.is("station", x.station(13 * i), i);
        }
        due.is("an eleventh", x.station(0), FULL);
        due.is("an eleventh at another one's cell", x.station(13), FULL);
        due.is("ten", x.count(0), 10);
        noStation(x, 10);
        due.is("row of the last", x.row(9, 1), 1);
        due.is("pick of the last", x.pick(9, 0, 1), 10);
        due.is("not deaf", x.deaf(9, true), 0);
        due.is("deaf", x.deaf(9, true), 1);
    }

    static void stationsMayShareACell() {
        FirstSeconds x = new FirstSeconds();
        for (int i = 0; i < 10; i++) due.is("station", x.station(143), i);
        for (int i = 0; i < 6; i++) due.is("town", x.town(143), i);
    }

    static void stationsAreAsOnes() {
        FirstSeconds x = new FirstSeconds();
        x.station(5);
        x.later(10);
        for (int station : beside(0, 0)) noStation(x, station);
        due.is("row of the only one", x.row(0, 1), 1);
    }

    // "STATE: there are PICKS"
    static void stationsComeAheadOfThePicks() {
        FirstSeconds x = new FirstSeconds();
        due.is("station", x.station(0), 0);
        due.is("a pick that is refused", x.pick(0, 1, 1), BAD);
        due.is("is none", x.station(0), 1);
        due.is("a pick", x.pick(0, 0, 1), 10);
        due.is("too late", x.station(0), STATE);
        due.is("too late", x.station(143), STATE);
        due.is("two", x.count(0), 2);
        noStation(x, 2);
    }

    // "TOWNS 0, 1, .. (6 at most)"; "A TOWN at a CELL: its number. BAD; FULL."
    static void sixTowns() {
        FirstSeconds x = oneStation();
        x.pick(0, 0, 1000000);
        for (int i = 0; i < 6; i++) {
            noTown(x, i);
            due.is("town, also when there are picks", x.town(i % 2 == 0 ? 0 : 143), i);
            due.is("felt in it", x.felt(i, 0), 11);
        }
        due.is("a seventh", x.town(0), FULL);
        due.is("a seventh at another one's cell", x.town(143), FULL);
        due.is("six", x.count(1), 6);
        noTown(x, 6);
        for (int town : beside(0, 5)) noTown(x, town);
        due.is("drill in the last", x.drill(5, 1), 1);
    }

    // ---- Promise 5: deaf

    // "A STATION is DEAF from now on, or not: 1 if it was, else 0."
    static void deafTellsWhatWas() {
        FirstSeconds x = new FirstSeconds();
        x.station(0);
        x.station(0);
        due.is("no one is at first", x.deaf(0, false), 0);
        due.is("was not", x.deaf(0, true), 0);
        due.is("was", x.deaf(0, true), 1);
        due.is("the other one was not", x.deaf(1, true), 0);
        due.is("was", x.deaf(0, false), 1);
        due.is("was not", x.deaf(0, false), 0);
        due.is("the other one still was", x.deaf(1, false), 1);
        due.is("no finding", x.finding(), 0);
    }

    // ---- Promise 6: travel

    // "the greatest whole t with t times t not above q times the square": at a square, below it, above it
    static void travelIsNotAbove() {
        FirstSeconds x = new FirstSeconds();
        for (int t = 2; t <= 19; t++) {
            due.is("rule", x.rule(t * t - 1, 0), 1);
            due.is("one below the square of " + t, x.travel(0, 1), t - 1);
            due.is("rule", x.rule(t * t, 0), 1);
            due.is("the square of " + t, x.travel(0, 1), t);
            due.is("rule", x.rule(t * t + 1, 0), 1);
            due.is("one above the square of " + t, x.travel(0, 1), t);
        }
        x.rule(1, 0);
        due.is("1 by 1", x.travel(0, 1), 1);
        due.is("1 by 2", x.travel(0, 13), 1);
        due.is("1 by 4", x.travel(0, 2), 2);
        due.is("1 by 5", x.travel(0, 14), 2);
        due.is("1 by 8", x.travel(0, 26), 2);
        due.is("1 by 9", x.travel(0, 3), 3);
        x.rule(399, 0);
        due.is("399 by 1", x.travel(0, 1), 19);
    }

    // the least and the greatest way that there is
    static void travelAtItsEnds() {
        FirstSeconds x = new FirstSeconds();
        x.rule(400, 0);
        due.is("20 by 1", x.travel(0, 1), 20);
        due.is("none", x.travel(0, 0), 0);
        due.is("none", x.travel(143, 143), 0);
        due.is("400 by 242", x.travel(0, 143), 311);
        due.is("400 by 242, back", x.travel(143, 0), 311);
        due.is("400 by 242, aslant", x.travel(11, 132), 311);
        due.is("400 by 242, aslant, back", x.travel(132, 11), 311);
    }

    // ---- Promise 7: later

    // "NOW is a tick, which only goes on (0 .. 100000; 0 at first)"; "BAD: n below 0, beyond 100000."
    static void nowIsNoneToHundredThousand() {
        FirstSeconds x = new FirstSeconds();
        due.is("0 at first", x.count(5), 0);
        due.is("none later", x.later(0), 0);
        due.is("beyond at once", x.later(100001), BAD);
        due.is("below", x.later(-1), BAD);
        due.is("0 still", x.count(5), 0);
        due.is("all at once", x.later(100000), 100000);
        due.is("none later", x.later(0), 100000);
        due.is("beyond", x.later(1), BAD);
        due.is("back", x.later(-1), BAD);
        due.is("back to 0", x.later(-100000), BAD);
        due.is("100000 still", x.count(5), 100000);

        FirstSeconds y = new FirstSeconds();
        due.is("one ahead of the end", y.later(99999), 99999);
        due.is("beyond by one", y.later(2), BAD);
        due.is("99999 still", y.count(5), 99999);
        due.is("at the end", y.later(1), 100000);
    }

    // a sum that is large: NOW and n go around the ends of int
    static void laterGoesNotAround() {
        for (int now : new int[] {0, 1, 2, 50000, 99999, 100000}) {
            FirstSeconds x = new FirstSeconds();
            x.later(now);
            for (int n : new int[] {MOST, MOST - 1, MOST - 50000, MOST - 100000, LEAST, LEAST + 1, LEAST + 100000}) {
                due.is("later by " + n + " at " + now, x.later(n), BAD);
            }
            due.is("NOW still", x.count(5), now);
        }
    }
}
