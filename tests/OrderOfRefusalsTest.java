/**
 * "Refused is, the first of these that fits, in this order: BAD -1, FULL -2, STATE -4, FINDING -3, unless a call says
 * so otherwise": for each call all refusals of which two fit at once, and BAD ahead of NONE.
 */
public final class OrderOfRefusalsTest extends Edges {
    public static void main(String[] args) throws ReflectiveOperationException {
        runAll(OrderOfRefusalsTest.class);
    }

    private static FirstSeconds tenStations() {
        FirstSeconds x = new FirstSeconds();
        for (int i = 0; i < 10; i++) x.station(i);
        return x;
    }

    // rule: BAD, STATE
    static void ruleIsBadAheadOfState() {
        FirstSeconds x = oneStation();
        x.pick(0, 0, 1);
        due.is("STATE alone", x.rule(400, 50), STATE);
        for (int q : beside(1, 400)) due.is("slowness " + q, x.rule(q, 50), BAD);
        for (int e : beside(0, 50)) due.is("error " + e, x.rule(400, e), BAD);
        due.is("both", x.rule(0, 51), BAD);
    }

    // station: BAD, FULL, STATE
    static void stationIsBadAheadOfFullAheadOfState() {
        FirstSeconds x = tenStations();
        due.is("FULL alone", x.station(0), FULL);
        for (int cell : beside(0, 143)) due.is("BAD, FULL", x.station(cell), BAD);
        x.pick(0, 0, 1);
        due.is("FULL, STATE", x.station(0), FULL);
        for (int cell : beside(0, 143)) due.is("BAD, FULL, STATE", x.station(cell), BAD);
        FirstSeconds y = oneStation();
        y.pick(0, 0, 1);
        due.is("STATE alone", y.station(0), STATE);
        for (int cell : beside(0, 143)) due.is("BAD, STATE", y.station(cell), BAD);
    }

    // town: BAD, FULL
    static void townIsBadAheadOfFull() {
        FirstSeconds x = new FirstSeconds();
        for (int i = 0; i < 6; i++) x.town(i);
        due.is("FULL alone", x.town(0), FULL);
        for (int cell : beside(0, 143)) due.is("BAD, FULL", x.town(cell), BAD);
    }

    // pick: BAD, FULL
    static void pickIsBadAheadOfFull() {
        FirstSeconds x = oneStation();
        x.later(5);
        for (int i = 0; i < 60; i++) x.pick(0, 0, 1);
        due.is("FULL alone", x.pick(0, 0, 1), FULL);
        for (int station : beside(0, 0)) due.is("station " + station, x.pick(station, 0, 1), BAD);
        for (int tick : beside(0, 5)) due.is("tick " + tick, x.pick(0, tick, 1), BAD);
        for (int strength : beside(1, 1000000)) due.is("strength " + strength, x.pick(0, 0, strength), BAD);
    }

    // drill: BAD, FULL
    static void drillIsBadAheadOfFull() {
        FirstSeconds x = new FirstSeconds();
        x.town(0);
        drills(x, 1, 400);
        due.is("FULL alone", x.drill(0, 1), FULL);
        for (int town : beside(0, 0)) due.is("town " + town, x.drill(town, 1), BAD);
        for (int level : beside(1, 4)) due.is("level " + level, x.drill(0, level), BAD);
    }

    // row: BAD, SIZE
    static void rowIsBadAheadOfSize() {
        FirstSeconds x = tenStations();
        due.finds("SIZE alone", x, x.row(9, -1), SIZE, 1);
        for (int station : beside(0, 9)) {
            due.is("station " + station, x.row(station, -1), BAD);
            due.is("station " + station, x.row(station, LEAST), BAD);
        }
        due.is("SIZE once", x.findings(SIZE), 1);
    }

    // lay: BAD, NOTHING, BEYOND
    static void layIsBadAheadOfNothingAheadOfBeyond() {
        FirstSeconds x = oneStation();
        due.finds("NOTHING alone", x, x.lay(0, 0, 1), NOTHING, 1);
        for (int v : beside(-100000, 100000)) due.is("BAD, NOTHING", x.lay(0, 0, v), BAD);
        for (int v : beside(-100000, 100000)) due.is("BAD, NOTHING, BEYOND", x.lay(0, -1, v), BAD);
        due.finds("NOTHING, BEYOND", x, x.lay(0, -1, 1), NOTHING, 2);
        due.finds("NOTHING, BEYOND", x, x.lay(0, 30, 1), NOTHING, 3);
        x.row(0, 2);
        due.finds("BEYOND alone", x, x.lay(0, 2, 1), BEYOND, 1);
        for (int v : beside(-100000, 100000)) due.is("BAD, BEYOND", x.lay(0, 2, v), BAD);
        for (int station : beside(0, 0)) due.is("BAD, BEYOND", x.lay(station, 2, 1), BAD);
        due.is("NOTHING", x.findings(NOTHING), 3);
        due.is("BEYOND", x.findings(BEYOND), 1);
    }

    // copy: BAD; "SIZE: n below 0; NOTHING: either; BEYOND: not so many there. (In this order.)"
    static void copyIsBadAheadOfAll() {
        FirstSeconds x = twins(0);
        x.row(0, 2);
        for (int station : beside(0, 1)) {
            due.is("BAD, SIZE", x.copy(station, 0, 0, 0, -1), BAD);
            due.is("BAD, SIZE", x.copy(0, 0, station, 0, -1), BAD);
            due.is("BAD, NOTHING", x.copy(station, 0, 1, 0, 1), BAD);
            due.is("BAD, NOTHING", x.copy(1, 0, station, 0, 1), BAD);
            due.is("BAD, BEYOND", x.copy(station, 0, 0, 3, 1), BAD);
            due.is("BAD, BEYOND", x.copy(0, 3, station, 0, 1), BAD);
            due.is("both", x.copy(station, 0, station, 0, 1), BAD);
        }
        due.is("no finding", x.finding(), 0);
    }

    static void copyIsSizeAheadOfNothingAheadOfBeyond() {
        FirstSeconds x = twins(0);
        due.finds("SIZE, NOTHING", x, x.copy(0, 0, 1, 0, -1), SIZE, 1);
        due.finds("SIZE, NOTHING, BEYOND", x, x.copy(0, -1, 1, -1, LEAST), SIZE, 2);
        due.finds("NOTHING, BEYOND, both", x, x.copy(0, -1, 1, 31, 1), NOTHING, 1);
        x.row(0, 2);
        due.finds("SIZE, NOTHING of the other", x, x.copy(0, 0, 1, 0, -1), SIZE, 3);
        due.finds("SIZE, NOTHING of the one", x, x.copy(1, 0, 0, 0, -1), SIZE, 4);
        due.finds("NOTHING of the other, BEYOND of the one", x, x.copy(0, 2, 1, 0, 1), NOTHING, 2);
        due.finds("NOTHING of the one, BEYOND of the other", x, x.copy(1, 0, 0, 2, 1), NOTHING, 3);
        x.row(1, 2);
        due.finds("SIZE, BEYOND of the one", x, x.copy(0, -1, 1, 0, -1), SIZE, 5);
        due.finds("SIZE, BEYOND of the other", x, x.copy(0, 0, 1, 3, -1), SIZE, 6);
        due.finds("BEYOND alone", x, x.copy(0, 2, 1, 0, 1), BEYOND, 1);
    }

    // mean: NOTHING, and not NOUGHT
    static void meanOfAMissingRow() {
        FirstSeconds x = oneStation();
        due.finds("missing", x, x.mean(0), NOTHING, 1);
        x.row(0, 0);
        due.finds("of none", x, x.mean(0), NOUGHT, 1);
        due.is("NOTHING once", x.findings(NOTHING), 1);
    }

    // first: BAD, NOTHING; BAD ahead of NONE
    static void firstIsBadAheadOfNothing() {
        for (boolean missing : new boolean[] {true, false}) {
            FirstSeconds x = oneStation();
            if (!missing) x.row(0, 0);
            due.is("else", x.first(0, 10, 10, 1000, 1000), missing ? FINDING : NONE);
            for (int bad : beside(1, 10)) {
                due.is("s " + bad, x.first(0, bad, 1, 1, 1), BAD);
                due.is("l " + bad, x.first(0, 1, bad, 1, 1), BAD);
            }
            for (int bad : beside(1, 1000)) {
                due.is("a " + bad, x.first(0, 1, 1, bad, 1), BAD);
                due.is("b " + bad, x.first(0, 1, 1, 1, bad), BAD);
            }
            for (int bad : beside(0, 0)) due.is("station " + bad, x.first(bad, 1, 1, 1, 1), BAD);
            due.is("no more findings", x.findings(NOTHING), missing ? 1 : 0);
        }
    }

    // mark: BAD, UNLIKE
    static void markIsBadAheadOfUnlike() {
        FirstSeconds x = oneStation();
        x.pick(0, 0, 1);
        due.finds("UNLIKE alone", x, x.mark(0, 3), UNLIKE, 1);
        for (int pick : beside(0, 0)) due.is("pick " + pick, x.mark(pick, 3), BAD);
        for (int kind : beside(0, 3)) due.is("kind " + kind, x.mark(0, kind), BAD);
        due.is("UNLIKE once", x.findings(UNLIKE), 1);
    }

    // of a quake without a cell: BAD ahead of NONE
    static void badIsAheadOfNone() {
        FirstSeconds x = over(1);
        x.town(0);
        due.is("cell: NONE", x.cell(0, 0), NONE);
        due.is("time: NONE", x.time(0, 0, true), NONE);
        due.is("felt: NONE", x.felt(0, 0), NONE);
        due.is("late: NONE", x.late(0, 0), NONE);
        due.is("left: NONE", x.left(0, 0), NONE);
        for (int quake : beside(0, 0)) noQuake(x, quake);
        for (int quake : beside(0, 0)) due.is("cell -1 of " + quake, x.cell(quake, -1), BAD);
        for (int town : beside(0, 0)) noTown(x, town);
        for (int cell : beside(0, 143)) {
            due.is("time at " + cell, x.time(0, cell, true), BAD);
            due.is("holds at " + cell, x.holds(0, cell, 0), BAD);
        }
        for (int what : beside(0, 3)) due.is("message, what " + what, x.message(0, what), BAD);
        for (int what : beside(0, 4)) due.is("quake, what " + what, x.quake(0, what), BAD);
    }
}
