/** The edges of THE HEAP, of SIZE, and of promises 17 to 20; above each test the document's words. */
public final class EdgesOfHeapsTest extends Edges {
    public static void main(String[] args) throws ReflectiveOperationException {
        runAll(EdgesOfHeapsTest.class);
    }

    private static void times(FirstSeconds x, int quake, int cell, int first, int last) {
        due.is("first", x.time(quake, cell, false), 1);
        due.is("first of " + cell, x.asked(), first);
        due.is("last", x.time(quake, cell, true), 1);
        due.is("last of " + cell, x.asked(), last);
        due.is("ahead of the first", x.holds(quake, cell, first - 1), 0);
        due.is("the first", x.holds(quake, cell, first), 1);
        due.is("the last", x.holds(quake, cell, last), 1);
        due.is("behind the last", x.holds(quake, cell, last + 1), 0);
    }

    private static void notIn(FirstSeconds x, int quake, int cell, int t) {
        int before = x.asked();
        due.is("no first", x.time(quake, cell, false), NONE);
        due.is("no last", x.time(quake, cell, true), NONE);
        due.is("nothing told", x.asked(), before);
        due.is("holds none", x.holds(quake, cell, t), 0);
    }

    // ---- THE HEAP

    // "T (any whole number)": below 0, as far as can be
    static void timesBelowNone() {
        FirstSeconds x = new FirstSeconds();
        x.rule(400, 50);
        x.station(0);
        x.pick(0, 0, 1);
        times(x, 0, 0, -50, 50);
        times(x, 0, 1, -70, 30);
        times(x, 0, 143, -361, -261);
    }

    // "T (any whole number)": beyond NOW, as far as can be
    static void timesBeyondNow() {
        FirstSeconds x = new FirstSeconds();
        x.rule(400, 50);
        x.station(0);
        x.later(100000);
        x.pick(0, 100000, 1);
        times(x, 0, 0, 99950, 100050);
        times(x, 0, 143, 100000 - 311 - 50, 100000 - 311 + 50);
    }

    // "differ from the PICK's TICK by e at most": both ways
    static void timesWithinTheError() {
        for (int e : new int[] {0, 1, 2, 49, 50}) {
            FirstSeconds x = new FirstSeconds();
            x.rule(100, e);
            x.station(14);
            x.later(300);
            x.pick(0, 200, 1);
            times(x, 0, 14, 200 - e, 200 + e);
            times(x, 0, 15, 190 - e, 190 + e);
        }
    }

    // "for each of its PICKS": what all leave over
    static void timesThatAllPicksLeave() {
        FirstSeconds x = twins(5);
        x.later(300);
        x.deaf(0, true);
        x.deaf(1, true);
        x.pick(0, 100, 1);
        times(x, 0, 0, 95, 105);
        due.is("joins", x.pick(1, 107, 1), 0);
        times(x, 0, 0, 102, 105);
        x.pick(0, 80, 1);
        due.is("joins", x.pick(1, 70, 1), 1);
        due.is("a single T", x.quake(1, 1), 144);
        times(x, 1, 0, 75, 75);
    }

    // "T and TRAVEL and e together are NOW at least": at NOW it is, one below it isn't
    static void timesThatASilentStationLeaves() {
        FirstSeconds x = new FirstSeconds();
        x.rule(100, 3);
        x.station(0);
        x.station(1);
        x.later(30);
        x.pick(0, 20, 1);
        times(x, 0, 0, 17, 23);
        x.later(1);
        times(x, 0, 0, 18, 23);
        x.later(4);
        times(x, 0, 0, 22, 23);
        x.later(1);
        times(x, 0, 0, 23, 23);
        due.is("a cell", x.quake(0, 1), 1);
        x.later(1);
        notIn(x, 0, 0, 23);
        due.is("no cell", x.quake(0, 1), 0);
    }

    // "and is not DEAF": as soon as it is, and as soon as it isn't
    static void timesThatADeafStationLeaves() {
        FirstSeconds x = new FirstSeconds();
        x.rule(100, 3);
        x.station(0);
        x.station(1);
        x.later(36);
        x.pick(0, 20, 1);
        times(x, 0, 0, 23, 23);
        x.deaf(1, true);
        times(x, 0, 0, 17, 23);
        x.deaf(0, true);
        times(x, 0, 0, 17, 23);
        x.deaf(1, false);
        times(x, 0, 0, 23, 23);
    }

    // "each STATION that has no PICK in this QUAKE": one in another quake is silent in this one
    static void silentInThisQuake() {
        FirstSeconds x = twins(0);
        x.later(10);
        due.is("opens", x.pick(0, 10, 1), 10);
        due.is("opens", x.pick(1, 9, 1), 11);
        due.is("0 may be heard yet", x.quake(0, 4), 0);
        due.is("1 should have been heard", x.quake(1, 4), 1);
        x.later(1);
        due.is("0 should have been heard", x.quake(0, 4), 1);
        x.deaf(1, true);
        due.is("0: station 1 is deaf", x.quake(0, 4), 0);
        due.is("1: station 0 is not", x.quake(1, 4), 1);
    }

    // a loose pick's station is silent in each quake
    static void silentThoughLoose() {
        FirstSeconds x = twins(0);
        for (int i = 0; i < 5; i++) x.pick(0, 0, 1);
        x.later(9);
        due.is("loose", x.pick(1, 9, 1), NONE);
        due.is("over", x.quake(0, 4), 1);
    }

    // "(For a CELL the T are those from a first to a last one.)"
    static void timesAreWithoutGaps() {
        FirstSeconds x = new FirstSeconds();
        x.rule(100, 50);
        x.station(0);
        x.later(200);
        x.pick(0, 100, 1);
        for (int t = 0; t <= 200; t++) due.is("holds " + t, x.holds(0, 0, t), t >= 50 && t <= 150 ? 1 : 0);
    }

    // ---- SIZE of a QUAKE at a CELL

    // "how many bits .. (as a whole number above 0, without 0s ahead)": about the powers of two
    static void sizesAboutPowersOfTwo() {
        for (int bits = 1; bits <= 20; bits++) {
            FirstSeconds x = oneStation();
            int least = 1 << (bits - 1);
            x.pick(0, 0, least);
            due.is("low of " + least, x.quake(0, 2), bits);
            int most = Math.min(1000000, 2 * least - 1);
            x.pick(0, 0, most);
            due.is("low of " + most, x.quake(1, 2), bits);
        }
    }

    /** A hundred ticks nearer to station 1 (cell 10) are cells 10 and 11: ways 100 and 110 to station 0, the first. */
    private static FirstSeconds twoCells(int strength) {
        FirstSeconds x = new FirstSeconds();
        x.rule(100, 0);
        x.station(0);
        x.station(10);
        x.later(100);
        x.deaf(0, true);
        x.deaf(1, true);
        x.pick(0, 100, strength);
        due.is("joins", x.pick(1, 0, 1000000), 0);
        due.is("two cells", x.quake(0, 1), 2);
        return x;
    }

    // "times TRAVEL from there to that one's STATION and 1"; LOW and HIGH are the least and the greatest of them
    static void sizesAreTimesTheWayAndOne() {
        int[][] sizes = {
            {1, 7, 7}, {73, 13, 13}, {74, 13, 14}, {81, 13, 14}, {82, 14, 14}, {9, 10, 10}, {10, 10, 11}, {11, 11, 11},
            {1000000, 27, 27},
        };
        for (int[] of : sizes) {
            FirstSeconds x = twoCells(of[0]);
            due.is("low: " + of[0] + " by 101", x.quake(0, 2), of[1]);
            due.is("high: " + of[0] + " by 111", x.quake(0, 3), of[2]);
        }
    }

    // "its first PICK": the one that opened it, neither the strongest nor the earliest
    static void sizesAreTheFirstPicks() {
        FirstSeconds x = neighbours();
        x.later(10);
        x.deaf(0, true);
        x.deaf(1, true);
        x.pick(1, 10, 64);
        due.is("joins, earlier and stronger", x.pick(0, 0, 1000000), 0);
        due.is("cell 0", x.cell(0, 0), 0);
        due.is("one cell", x.quake(0, 1), 1);
        due.is("low: 64 by 11", x.quake(0, 2), 10);
        due.is("high", x.quake(0, 3), 10);
    }

    // a product that is large: 1000000 by 312
    static void sizesOfLargeProducts() {
        FirstSeconds x = oneStation();
        x.pick(0, 0, 1000000);
        due.is("low: 1000000", x.quake(0, 2), 20);
        due.is("high: 312000000", x.quake(0, 3), 29);
        x.pick(0, 0, 860370);
        due.is("high: 268435440", x.quake(1, 3), 28);
        x.pick(0, 0, 860371);
        due.is("high: 268435752", x.quake(2, 3), 29);
    }

    // ---- Promise 17: quake

    // "Of a QUAKE: 0 .. 4. BAD."
    static void quakesAndWhat() {
        FirstSeconds x = oneStation();
        x.town(0);
        for (int i = 0; i < 3; i++) x.pick(0, 0, 1);
        for (int quake : beside(0, 2)) noQuake(x, quake);
        for (int what : beside(0, 4)) {
            due.is("what " + what, x.quake(0, what), BAD);
            due.is("what " + what + " of the last", x.quake(2, what), BAD);
            due.is("what " + what + " of none", x.quake(3, what), BAD);
        }
        due.is("the last", x.quake(2, 0), 1);
    }

    // "how many PICKS": one at least, one of each station at most
    static void quakesOfOneToTenPicks() {
        FirstSeconds x = new FirstSeconds();
        for (int i = 0; i < 10; i++) x.station(0);
        for (int i = 0; i < 10; i++) {
            due.is("joins", x.pick(i, 0, 1), i == 0 ? 10 : 0);
            due.is("picks", x.quake(0, 0), i + 1);
        }
        due.is("no more", x.pick(9, 0, 1), 11);
        due.is("ten", x.quake(0, 0), 10);
    }

    // "LOW, HIGH (NONE: it has no CELL)"; "whether it is OVER (1, 0)": all cells, one, none
    static void quakesOfAllCellsOfOneAndOfNone() {
        FirstSeconds x = oneStation();
        x.pick(0, 0, 1);
        tells(x, 1, 144, 1, 9, 0);
        tells(oneCell(5), 2, 1, 3, 3, 0);
        FirstSeconds y = over(5);
        tells(y, 1, 0, NONE, NONE, 1);
        y.deaf(1, true);
        tells(y, 1, 144, 3, 10, 0);
        y.deaf(1, false);
        tells(y, 1, 0, NONE, NONE, 1);
    }

    private static void tells(FirstSeconds x, int... told) {
        for (int what = 0; what <= 4; what++) due.is("quake 0 " + what, x.quake(0, what), told[what]);
    }

    // "OVER, as long as its HEAP has no CELL": the last tick, and the next one
    static void overByATick() {
        FirstSeconds x = neighbours();
        x.later(7);
        x.pick(0, 7, 1);
        x.later(10);
        due.is("7 and 10 is NOW", x.quake(0, 4), 0);
        due.is("cell 0 alone", x.quake(0, 1), 1);
        x.later(1);
        due.is("7 and 10 is below NOW", x.quake(0, 4), 1);
        due.is("none", x.quake(0, 1), 0);
        x.later(0);
        due.is("still", x.quake(0, 4), 1);
    }

    // ---- Promise 18: cell

    // "CELL i of THE HEAP (by numbers); NONE: none such. BAD."
    static void cellsByNumbers() {
        FirstSeconds x = oneStation();
        x.pick(0, 0, 1);
        for (int i = 0; i < 144; i++) due.is("cell " + i + " of all", x.cell(0, i), i);
        for (int i : beside(0, 143)) due.is("cell " + i + " of all", x.cell(0, i), NONE);
        FirstSeconds y = twoCells(1);
        due.is("the first of two", y.cell(0, 0), 10);
        due.is("the last of two", y.cell(0, 1), 11);
        for (int i : beside(0, 1)) due.is("cell " + i + " of two", y.cell(0, i), NONE);
        FirstSeconds z = oneCell(1);
        due.is("the only one", z.cell(0, 0), 0);
        for (int i : beside(0, 0)) due.is("cell " + i + " of one", z.cell(0, i), NONE);
        FirstSeconds w = over(1);
        for (int i : new int[] {0, -1, 1, LEAST, MOST}) due.is("cell " + i + " of none", w.cell(0, i), NONE);
        for (int quake : beside(0, 0)) due.is("cell of quake " + quake, x.cell(quake, 0), BAD);
    }

    // ---- Promise 19: time; Promise 20: holds

    // "NONE: the CELL is not in it": asked() stays
    static void timesOfCellsThatAreNotInIt() {
        FirstSeconds x = oneCell(1);
        due.is("time", x.time(0, 0, true), 1);
        for (int cell : new int[] {1, 12, 13, 143}) notIn(x, 0, cell, -x.travel(0, cell));
        FirstSeconds y = over(1);
        for (int cell : new int[] {0, 1, 143}) notIn(y, 0, cell, -y.travel(0, cell));
        due.is("nothing told ever", y.asked(), 0);
    }

    // T far off: what is added to it goes around the ends of int
    static void holdsNoTimeFarOff() {
        FirstSeconds x = new FirstSeconds();
        x.rule(100, 50);
        x.station(0);
        x.later(100);
        x.pick(0, 100, 1);
        for (int i = 0; i < 200; i++) {
            due.is("holds at the least, " + i, x.holds(0, 0, LEAST + i), 0);
            due.is("holds at the most, " + i, x.holds(0, 13, MOST - i), 0);
        }
        FirstSeconds y = twins(50);
        y.later(100);
        y.pick(0, 100, 1);
        for (int i = 0; i < 200; i++) {
            due.is("one is silent, at the most, " + i, y.holds(0, 13, MOST - i), 0);
            due.is("one is silent, at the least, " + i, y.holds(0, 0, LEAST + i), 0);
        }
    }

    // no T of a quake that is over, though its pick's is there
    static void holdsNoneWhenOver() {
        FirstSeconds x = over(1);
        for (int t = -20; t <= 120; t++) due.is("holds " + t, x.holds(0, 0, t) + x.holds(0, 143, t), 0);
    }
}
