/** The edges of PICKS, of how they are joined, and of promises 14 to 16; above each test the document's words. */
public final class EdgesOfPicksTest extends Edges {
    public static void main(String[] args) throws ReflectiveOperationException {
        runAll(EdgesOfPicksTest.class);
    }

    /** What a pick is: told() 0 to 4. */
    private static void tells(FirstSeconds x, int pick, int... told) {
        for (int what = 0; what <= 4; what++) due.is("told " + pick + " " + what, x.told(pick, what), told[what]);
    }

    // ---- What it is

    // "picks from rows of readings": the place that first() tells is a tick after the row's first one
    static void picksComeFromRows() {
        FirstSeconds x = neighbours();
        x.later(30);
        lays(x, 0, 1, -2, 1, 30, -40);
        lays(x, 1, 1, 1, 1, 1, 1);
        int place = x.first(0, 2, 3, 5, 1);
        due.is("its first pick", place, 3);
        due.is("opens", x.pick(0, 20 + place, 40), 10);
        due.is("its tick", x.told(0, 1), 23);
        due.is("a row that tells of none", x.first(1, 2, 3, 5, 1), NONE);
    }

    // "late ones": a pick that comes long after its tick, and after one that was heard later
    static void latePicksJoin() {
        FirstSeconds x = neighbours();
        x.deaf(0, true);
        x.deaf(1, true);
        x.later(100000);
        due.is("opens", x.pick(1, 60, 1), 10);
        due.is("joins: ten ticks sooner", x.pick(0, 50, 1), 0);
        due.is("cell 0", x.cell(0, 0), 0);
        due.is("T is 50", x.holds(0, 0, 50), 1);
    }

    // "and lost ones too": a pick that never comes ends the quake, unless its station is DEAF; then T are as heard
    static void lostPicksEndAQuake() {
        FirstSeconds x = twins(2);
        x.later(50);
        x.pick(0, 48, 1);
        x.later(2);
        due.is("it may come yet", x.quake(0, 4), 0);
        due.is("T is 50 alone", x.holds(0, 0, 49) + x.holds(0, 0, 50) + x.holds(0, 0, 51), 1);
        x.later(1);
        due.is("it is lost", x.quake(0, 4), 1);
        x.deaf(1, true);
        due.is("it is not waited for", x.quake(0, 4), 0);
        for (int t = 46; t <= 50; t++) due.is("T as heard", x.holds(0, 0, t), 1);
    }

    // "two at once parted": at cells 13 and 130, both from tick 20 on; at stations 1 and 2 both are heard at once
    static void twoQuakesAtOnceAreParted() {
        FirstSeconds x = new FirstSeconds();
        for (int cell : new int[] {0, 11, 132, 143}) x.station(cell);
        x.later(34);
        due.is("one opens", x.pick(0, 34, 100), 10);
        due.is("the other one opens", x.pick(3, 34, 200), 11);
        x.later(120 - 34);
        due.is("station 1 of the one", x.pick(1, 120, 90), 0);
        due.is("station 1 of the other one", x.pick(1, 120, 90), 1);
        due.is("station 2 of the one", x.pick(2, 120, 90), 0);
        due.is("station 2 of the other one", x.pick(2, 120, 90), 1);
        x.later(161 - 120);
        due.is("station 3 of the one", x.pick(3, 161, 80), 0);
        due.is("station 0 of the other one", x.pick(0, 161, 80), 1);
        due.is("the one is at cell 13", x.holds(0, 13, 20), 1);
        due.is("and not at cell 130", x.time(0, 130, true), NONE);
        due.is("the other one is at cell 130", x.holds(1, 130, 20), 1);
        due.is("and not at cell 13", x.time(1, 13, true), NONE);
        due.is("all stations", x.quake(0, 0) + x.quake(1, 0), 8);
        due.is("two quakes", x.count(3), 2);
    }

    // ---- Promise 14: pick

    // "TICK 0 .. NOW"
    static void ticksAreNoneToNow() {
        for (int now : new int[] {0, 1, 2, 99999, 100000}) {
            FirstSeconds x = oneStation();
            x.later(now);
            for (int tick : beside(0, now)) due.is("tick " + tick + " at " + now, x.pick(0, tick, 1), BAD);
            due.is("tick far on", x.pick(0, 100001, 1), BAD);
            due.is("no pick", x.count(2), 0);
            due.is("tick NOW", x.pick(0, now, 1), 10);
            due.is("tick 0", x.pick(0, 0, 1), 11);
            tells(x, 0, 0, now, 1, 2, 0);
            tells(x, 1, 0, 0, 1, 2, 1);
        }
    }

    // ticks near 0 are ticks as any others
    static void ticksNearNone() {
        for (int tick = 0; tick <= 2; tick++) {
            FirstSeconds x = twins(0);
            x.later(2);
            x.deaf(1, true);
            due.is("opens", x.pick(0, tick, 1), 10);
            due.is("its station is in 0", x.pick(0, tick, 1), 11);
            due.is("joins", x.pick(1, tick, 1), 0);
            due.is("all cells", x.quake(0, 1), 144);
            due.is("at the tick", x.holds(0, 0, tick), 1);
            due.is("and no other one", x.holds(0, 0, tick + 1) + x.holds(0, 0, tick - 1), 0);
        }
    }

    // "a strength (1 .. 1000000)"
    static void strengthsAreOneToAMillion() {
        FirstSeconds x = oneStation();
        for (int strength : beside(1, 1000000)) due.is("strength " + strength, x.pick(0, 0, strength), BAD);
        due.is("no pick", x.count(2), 0);
        due.is("1", x.pick(0, 0, 1), 10);
        due.is("1000000", x.pick(0, 0, 1000000), 11);
        tells(x, 0, 0, 0, 1, 2, 0);
        tells(x, 1, 0, 0, 1000000, 2, 1);
    }

    // "PICKS 0, 1, .. (60 at most)"; "FULL"
    static void sixtyPicks() {
        FirstSeconds x = oneStation();
        noPick(x, 0);
        for (int i = 0; i < 60; i++) {
            due.is("count", x.count(2), i);
            due.is("pick " + i, x.pick(0, 0, i + 1), i < 5 ? 10 + i : NONE);
        }
        due.is("one more", x.pick(0, 0, 1), FULL);
        due.is("one more", x.pick(0, 0, 1000000), FULL);
        due.is("sixty", x.count(2), 60);
        tells(x, 0, 0, 0, 1, 2, 0);
        tells(x, 59, 0, 0, 60, 3, NONE);
        noPick(x, 60);
        due.is("no finding", x.finding(), 0);
    }

    // also one that would be joined is refused then, and the quake is as it was
    static void sixtyPicksAreFullForAQuakeToo() {
        FirstSeconds x = twins(0);
        for (int i = 0; i < 60; i++) x.pick(0, 0, 1);
        due.is("sixty", x.count(2), 60);
        due.is("quake 0 has none of station 1", x.pick(1, 0, 1), FULL);
        due.is("one pick", x.quake(0, 0), 1);
    }

    // ---- QUAKES

    // "else it OPENS a QUAKE (5 at most ever), else it is LOOSE"; "10 and more if it OPENED that; NONE: it is LOOSE"
    static void fiveQuakes() {
        FirstSeconds x = oneStation();
        for (int i = 0; i < 5; i++) {
            noQuake(x, i);
            due.is("opens", x.pick(0, 0, 1), 10 + i);
            due.is("count", x.count(3), i + 1);
        }
        due.is("a sixth", x.pick(0, 0, 1), NONE);
        due.is("five", x.count(3), 5);
        noQuake(x, 5);
        tells(x, 4, 0, 0, 1, 2, 4);
        tells(x, 5, 0, 0, 1, 3, NONE);
        due.is("the loose one is in no quake", x.quake(4, 0), 1);
    }

    // "5 at most ever": also when all of them are over
    static void fiveQuakesEver() {
        FirstSeconds x = neighbours();
        for (int i = 0; i < 5; i++) x.pick(0, 0, 1);
        x.later(100);
        for (int i = 0; i < 5; i++) due.is("over", x.quake(i, 4), 1);
        due.is("loose", x.pick(0, 100, 1), NONE);
        due.is("loose: over takes none", x.pick(1, 100, 1), NONE);
        due.is("five", x.count(3), 5);
        tells(x, 6, 1, 100, 1, 3, NONE);
    }

    // a fifth quake can still be joined when there are five
    static void theFifthQuakeTakesPicks() {
        FirstSeconds x = twins(0);
        x.later(50);
        x.deaf(1, true);
        for (int i = 0; i < 5; i++) x.pick(0, 10 * i, 1);
        due.is("joins the last", x.pick(1, 40, 1), 4);
        due.is("joins the first", x.pick(1, 0, 1), 0);
        due.is("fits none", x.pick(1, 15, 1), NONE);
        due.is("two", x.quake(4, 0), 2);
    }

    // "JOINED to the first QUAKE that has none of its STATION yet"
    static void joinedToTheFirstOfMany() {
        FirstSeconds x = twins(0);
        for (int i = 0; i < 5; i++) due.is("opens", x.pick(0, 0, 1), 10 + i);
        for (int i = 0; i < 5; i++) due.is("joins", x.pick(1, 0, 1), i);
        due.is("all have one of station 1", x.pick(1, 0, 1), NONE);
        due.is("all have one of station 0", x.pick(0, 0, 1), NONE);
        for (int i = 0; i < 5; i++) due.is("two picks", x.quake(i, 0), 2);
    }

    // "differ from the PICK's TICK by e at most": two stations at a place differ by e twice at most
    static void joinedWithinTheError() {
        for (int e : new int[] {0, 1, 2, 50}) {
            joins(e, 200, 200 + 2 * e, 0);
            joins(e, 200, 200 + 2 * e + 1, 11);
            joins(e, 200, 200 - 2 * e, 0);
            joins(e, 200, 200 - 2 * e - 1, 11);
        }
    }

    private static void joins(int e, int tick, int other, int due0) {
        FirstSeconds x = twins(e);
        x.deaf(0, true);
        x.deaf(1, true);
        x.later(400);
        due.is("opens", x.pick(0, tick, 1), 10);
        due.is(other + " to " + tick + " at " + e, x.pick(1, other, 1), due0);
        due.is("cells", x.quake(0, 1), 144);
    }

    // three of them: each may fit each, all must fit at once
    static void joinedWithAllThatAreThere() {
        FirstSeconds x = new FirstSeconds();
        x.rule(100, 1);
        for (int i = 0; i < 4; i++) x.station(0);
        for (int i = 0; i < 4; i++) x.deaf(i, true);
        x.later(20);
        due.is("opens", x.pick(0, 10, 1), 10);
        due.is("T is 11", x.pick(1, 12, 1), 0);
        due.is("11 is below 12 less 1 by none", x.pick(2, 12, 1), 0);
        due.is("9 and 1 is below 11", x.pick(3, 9, 1), 11);
        due.is("10 and 1 is 11", x.pick(3, 10, 1), 0);
    }

    // "and whose HEAP would still have a CELL with it": a station that is silent leaves too little, or just enough
    static void joinedWithWhatIsSilent() {
        for (int tick = 44; tick <= 50; tick++) {
            FirstSeconds x = new FirstSeconds();
            x.rule(100, 2);
            for (int i = 0; i < 3; i++) x.station(0);
            x.later(50);
            due.is("opens", x.pick(0, 50, 1), 10);
            // station 2 has heard nothing: T is 48 at least
            due.is("tick " + tick, x.pick(1, tick, 1), tick >= 46 ? 0 : 11);
        }
    }

    // "A QUAKE is OVER, as long as its HEAP has no CELL (as it is now): it takes no PICKS": by one tick
    static void overTakesNoPicks() {
        FirstSeconds x = twins(0);
        x.later(50);
        due.is("at NOW", x.pick(0, 50, 1), 10);
        due.is("not over", x.quake(0, 4), 0);
        due.is("joins", x.pick(1, 50, 1), 0);

        FirstSeconds y = twins(0);
        y.later(50);
        due.is("one ahead of NOW", y.pick(0, 49, 1), 10);
        due.is("over from its first pick on", y.quake(0, 4), 1);
        due.is("with it there would be cells", y.pick(1, 49, 1), 11);
        due.is("that one is over too", y.quake(1, 4), 1);
        y.deaf(1, true);
        due.is("0 is over no more", y.quake(0, 4), 0);
        due.is("1 still is", y.quake(1, 4), 1);
        due.is("joins 0", y.pick(1, 49, 1), 0);
        y.deaf(0, true);
        due.is("1 is over no more", y.quake(1, 4), 0);
        due.is("0 has one of station 0: joins 1", y.pick(0, 49, 1), 1);
    }

    // the last tick at which a quake takes one, and the first at which it doesn't
    static void overAsTimeGoesOn() {
        FirstSeconds x = twins(3);
        x.later(40);
        x.pick(0, 40, 1);
        x.later(6);
        due.is("43 and 3 is NOW", x.quake(0, 4), 0);
        due.is("joins", x.pick(1, 46, 1), 0);

        FirstSeconds y = twins(3);
        y.later(40);
        y.pick(0, 40, 1);
        y.later(7);
        due.is("43 and 3 is below NOW", y.quake(0, 4), 1);
        due.is("opens", y.pick(1, 46, 1), 11);
    }

    // a DEAF station's pick is one all the same
    static void deafStationsPick() {
        FirstSeconds x = twins(0);
        x.deaf(0, true);
        x.deaf(1, true);
        due.is("opens", x.pick(0, 0, 1), 10);
        due.is("joins", x.pick(1, 0, 1), 0);
        due.is("opens", x.pick(1, 0, 1), 11);
        tells(x, 1, 1, 0, 1, 1, 0);
    }

    // ---- Promise 15: told; Promise 16: mark

    /** Picks 0 (opens 0), 1 (joins 0), 2 to 5 (open 1 to 4), 6 (loose). NOW is 9. */
    private static FirstSeconds sevenPicks() {
        FirstSeconds x = twins(0);
        x.later(9);
        x.deaf(1, true);
        x.pick(0, 8, 21);
        x.pick(1, 8, 22);
        for (int i = 2; i <= 6; i++) x.pick(0, i, 21 + i);
        due.is("seven", x.count(2), 7);
        return x;
    }

    // "Of a PICK: 0 .. 4 its QUAKE (NONE). BAD."
    static void toldOfPicksAndOfNone() {
        FirstSeconds x = sevenPicks();
        tells(x, 0, 0, 8, 21, 2, 0);
        tells(x, 1, 1, 8, 22, 1, 0);
        for (int i = 2; i <= 5; i++) tells(x, i, 0, i, 21 + i, 2, i - 1);
        tells(x, 6, 0, 6, 27, 3, NONE);
        for (int pick : beside(0, 6)) noPick(x, pick);
        for (int what : beside(0, 4)) {
            due.is("what " + what, x.told(0, what), BAD);
            due.is("what " + what + " of the last", x.told(6, what), BAD);
            due.is("what " + what + " of none", x.told(7, what), BAD);
        }
    }

    // "a PICK that IS of a KIND (1, 2; an OPENING one IS a JOINED one); the TICK of a LOOSE one (3), or of any (0)"
    static void marksOfEachKind() {
        FirstSeconds x = sevenPicks();
        due.is("opening: any", x.mark(0, 0), 8);
        due.is("opening: joined", x.mark(0, 1), 0);
        due.is("opening", x.mark(0, 2), 0);
        due.finds("opening: loose", x, x.mark(0, 3), UNLIKE, 1);
        due.is("joined: any", x.mark(1, 0), 8);
        due.is("joined", x.mark(1, 1), 0);
        due.finds("joined: opening", x, x.mark(1, 2), UNLIKE, 2);
        due.finds("joined: loose", x, x.mark(1, 3), UNLIKE, 3);
        due.is("the last opening: any", x.mark(5, 0), 5);
        due.is("the last opening: joined", x.mark(5, 1), 4);
        due.is("the last opening", x.mark(5, 2), 4);
        due.finds("the last opening: loose", x, x.mark(5, 3), UNLIKE, 4);
        due.is("loose: any", x.mark(6, 0), 6);
        due.finds("loose: joined", x, x.mark(6, 1), UNLIKE, 5);
        due.finds("loose: opening", x, x.mark(6, 2), UNLIKE, 6);
        due.is("loose", x.mark(6, 3), 6);
    }

    // "BAD: also the KIND"
    static void kindsAreNoneToThree() {
        FirstSeconds x = sevenPicks();
        for (int kind : beside(0, 3)) {
            due.is("opening of kind " + kind, x.mark(0, kind), BAD);
            due.is("joined of kind " + kind, x.mark(1, kind), BAD);
            due.is("loose of kind " + kind, x.mark(6, kind), BAD);
            due.is("none of kind " + kind, x.mark(7, kind), BAD);
        }
        due.is("no finding", x.finding(), 0);
    }
}
