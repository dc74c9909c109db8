import java.util.ArrayList;
import java.util.List;
import java.util.function.Consumer;
import java.util.function.Supplier;
import java.util.function.ToIntFunction;

/**
 * "What is refused changes nothing but finding(), findings()": of two objects that are alike one refuses a call; from
 * there on both answer alike, whatever is asked of them and done with them. So it is where a call answers NONE.
 */
public final class RefusedChangesNothingTest extends Edges {
    private static final int NO_FINDING = 0;

    public static void main(String[] args) throws ReflectiveOperationException {
        runAll(RefusedChangesNothingTest.class);
    }

    private static void leaves(Supplier<FirstSeconds> made, String name, int answer, int finding, ToIntFunction<FirstSeconds> call) {
        FirstSeconds x = made.get();
        FirstSeconds y = made.get();
        int latest = x.finding();
        due.is(name, call.applyAsInt(x), answer);
        due.is(name + ": finding", x.finding(), finding == NO_FINDING ? latest : finding);
        for (int f = 1; f <= 5; f++) {
            due.is(name + ": findings " + f, x.findings(f), y.findings(f) + (f == finding ? 1 : 0));
        }
        List<String> left = seen(x);
        List<String> right = seen(y);
        for (int i = 0; i < right.size(); i++) due.is(name + ": then", left.get(i), right.get(i));
    }

    private static void bad(Supplier<FirstSeconds> made, String name, ToIntFunction<FirstSeconds> call) {
        leaves(made, name, BAD, NO_FINDING, call);
    }

    private static void found(Supplier<FirstSeconds> made, String name, int finding, ToIntFunction<FirstSeconds> call) {
        leaves(made, name, FINDING, finding, call);
    }

    // ---- all that can be seen of an object, and what becomes of it: some 130 calls at most

    private static List<String> seen(FirstSeconds x) {
        List<String> all = new ArrayList<>();
        tells(x, all);
        asks(x, all);
        goesOn(x, all);
        tells(x, all);
        return all;
    }

    private static void add(List<String> all, String call, long answer) {
        all.add(call + " = " + answer);
    }

    private static void tells(FirstSeconds x, List<String> all) {
        add(all, "digest", x.digest());
        add(all, "asked", x.asked());
        for (int what = 0; what <= 5; what++) add(all, "count " + what, x.count(what));
        add(all, "travel 0 to 1", x.travel(0, 1));
        add(all, "travel 0 to 143", x.travel(0, 143));
    }

    private static void asks(FirstSeconds x, List<String> all) {
        int quakes = Math.min(2, x.count(3));
        int towns = Math.min(2, x.count(1));
        for (int quake = 0; quake < quakes; quake++) {
            int cell = x.cell(quake, 0);
            add(all, "cell of " + quake, cell);
            add(all, "last time of " + quake, x.time(quake, cell, true));
            add(all, "asked", x.asked());
            for (int town = 0; town < towns; town++) {
                add(all, "felt in " + town + " by " + quake, x.felt(town, quake));
                add(all, "alarm in " + town + " for " + quake, x.alarm(town, quake));
                add(all, "late in " + town + " for " + quake, x.late(town, quake));
                add(all, "left in " + town + " for " + quake, x.left(town, quake));
            }
        }
    }

    private static void goesOn(FirstSeconds x, List<String> all) {
        add(all, "warn", x.warn());
        add(all, "drill", x.drill(0, 1));
        // from the most down, each is taken: what the one above needs is out of the way
        for (int k = 4; k >= 1; k--) add(all, "level " + k, x.level(k, 56 + k));
        add(all, "later", x.later(1));
        for (int s = 0; s < Math.min(3, x.count(0)); s++) {
            add(all, "deaf " + s, x.deaf(s, true));
            add(all, "first of " + s, x.first(s, 1, 1, 1, 1));
            add(all, "mean of " + s, x.mean(s));
            add(all, "lay of " + s, x.lay(s, 0, 3));
            add(all, "asked", x.asked());
        }
        add(all, "warn", x.warn());
        add(all, "station", x.station(77));
        add(all, "town", x.town(77));
        add(all, "pick", x.pick(0, 0, 7));
        add(all, "pick of station 1", x.pick(1, 20, 7));
        add(all, "first time", x.time(x.count(3) - 1, 0, false));
        add(all, "asked", x.asked());
        add(all, "warn", x.warn());
    }

    // ---- objects

    private static Supplier<FirstSeconds> after(Consumer<FirstSeconds> made) {
        return () -> {
            FirstSeconds x = new FirstSeconds();
            made.accept(x);
            return x;
        };
    }

    private static void nothing(FirstSeconds x) {
    }

    private static void mapAlone(FirstSeconds x) {
        x.rule(144, 3);
        x.station(0);
        x.station(1);
        x.town(66);
        x.later(15);
    }

    /** A quake of two picks, one of one pick, rows, messages, findings, and something asked. */
    private static void manyThings(FirstSeconds x) {
        mapAlone(x);
        x.station(40);
        x.town(5);
        x.level(2, 7);
        x.deaf(2, true);
        x.row(0, 4);
        for (int i = 0; i < 4; i++) x.lay(0, i, 10 * i - 15);
        x.lay(0, 2, 9);
        x.mean(1);
        x.row(1, 0);
        x.later(30);
        x.pick(0, 30, 900000);
        x.pick(1, 42, 800000);
        x.pick(0, 44, 700000);
        x.warn();
        x.drill(1, 4);
    }

    private static void tenStationsAndSixTowns(FirstSeconds x) {
        for (int i = 0; i < 10; i++) x.station(14 * i);
        for (int i = 0; i < 6; i++) x.town(20 * i);
    }

    private static void sixtyPicks(FirstSeconds x) {
        x.station(0);
        x.station(0);
        x.town(0);
        for (int i = 0; i < 60; i++) x.pick(0, 0, 1000000);
    }

    private static void fourHundredMessages(FirstSeconds x) {
        mapAlone(x);
        x.pick(0, 15, 1000000);
        for (int i = 0; i < 400; i++) x.drill(0, 1 + i % 4);
    }

    private static void allOver(FirstSeconds x) {
        mapAlone(x);
        for (int i = 0; i < 7; i++) x.pick(0, 15, 1000000);
        x.warn();
        x.later(1000);
    }

    private static void theEndOfNow(FirstSeconds x) {
        manyThings(x);
        x.later(100000 - x.count(5));
    }

    // ---- BAD

    static void badRules() {
        for (Consumer<FirstSeconds> of : List.<Consumer<FirstSeconds>>of(RefusedChangesNothingTest::nothing, RefusedChangesNothingTest::mapAlone)) {
            for (int q : beside(1, 400)) bad(after(of), "rule of " + q, x -> x.rule(q, 0));
            for (int e : beside(0, 50)) bad(after(of), "rule of error " + e, x -> x.rule(400, e));
        }
    }

    static void badCells() {
        Supplier<FirstSeconds> made = after(RefusedChangesNothingTest::mapAlone);
        Supplier<FirstSeconds> many = after(RefusedChangesNothingTest::manyThings);
        for (int cell : beside(0, 143)) {
            bad(made, "station at " + cell, x -> x.station(cell));
            bad(made, "town at " + cell, x -> x.town(cell));
            bad(made, "travel from " + cell, x -> x.travel(cell, 0));
            bad(made, "travel to " + cell, x -> x.travel(0, cell));
            bad(many, "time at " + cell, x -> x.time(0, cell, true));
            bad(many, "holds at " + cell, x -> x.holds(0, cell, 30));
        }
    }

    static void badStations() {
        Supplier<FirstSeconds> made = after(RefusedChangesNothingTest::manyThings);
        for (int station : beside(0, 2)) {
            bad(made, "deaf of " + station, x -> x.deaf(station, true));
            bad(made, "row of " + station, x -> x.row(station, 3));
            bad(made, "row of fewer than none of " + station, x -> x.row(station, -1));
            bad(made, "lay of " + station, x -> x.lay(station, 0, 3));
            bad(made, "tear of " + station, x -> x.tear(station));
            bad(made, "copy from " + station, x -> x.copy(station, 0, 0, 0, 1));
            bad(made, "copy to " + station, x -> x.copy(0, 0, station, 0, 1));
            bad(made, "mean of " + station, x -> x.mean(station));
            bad(made, "first of " + station, x -> x.first(station, 1, 1, 1, 1));
            bad(made, "pick of " + station, x -> x.pick(station, 30, 5));
        }
    }

    static void badRowsAndReadings() {
        Supplier<FirstSeconds> made = after(RefusedChangesNothingTest::manyThings);
        bad(made, "row of 31", x -> x.row(0, 31));
        bad(made, "row of far too many", x -> x.row(0, MOST));
        for (int v : beside(-100000, 100000)) bad(made, "lay of " + v, x -> x.lay(0, 2, v));
        for (int bad : beside(1, 10)) {
            bad(made, "first, s " + bad, x -> x.first(0, bad, 1, 1, 1));
            bad(made, "first, l " + bad, x -> x.first(0, 1, bad, 1, 1));
        }
        for (int bad : beside(1, 1000)) {
            bad(made, "first, a " + bad, x -> x.first(0, 1, 1, bad, 1));
            bad(made, "first, b " + bad, x -> x.first(0, 1, 1, 1, bad));
        }
    }

    static void badLaters() {
        Supplier<FirstSeconds> made = after(RefusedChangesNothingTest::manyThings);
        for (int n : beside(0, 100000 - 45)) bad(made, "later by " + n, x -> x.later(n));
        Supplier<FirstSeconds> end = after(RefusedChangesNothingTest::theEndOfNow);
        for (int n : beside(0, 0)) bad(end, "later by " + n + " at the end", x -> x.later(n));
    }

    static void badPicks() {
        Supplier<FirstSeconds> made = after(RefusedChangesNothingTest::manyThings);
        for (int tick : beside(0, 45)) bad(made, "pick at " + tick, x -> x.pick(1, tick, 5));
        for (int strength : beside(1, 1000000)) bad(made, "pick of " + strength, x -> x.pick(1, 45, strength));
        for (int pick : beside(0, 2)) {
            bad(made, "told of " + pick, x -> x.told(pick, 0));
            bad(made, "mark of " + pick, x -> x.mark(pick, 3));
        }
        for (int what : beside(0, 4)) bad(made, "told " + what, x -> x.told(0, what));
        for (int kind : beside(0, 3)) bad(made, "mark of kind " + kind, x -> x.mark(0, kind));
    }

    static void badQuakes() {
        Supplier<FirstSeconds> made = after(RefusedChangesNothingTest::manyThings);
        for (int quake : beside(0, 1)) {
            bad(made, "quake " + quake, x -> x.quake(quake, 0));
            bad(made, "cell of " + quake, x -> x.cell(quake, 0));
            bad(made, "time of " + quake, x -> x.time(quake, 0, true));
            bad(made, "holds of " + quake, x -> x.holds(quake, 0, 30));
            bad(made, "felt by " + quake, x -> x.felt(0, quake));
            bad(made, "alarm for " + quake, x -> x.alarm(0, quake));
            bad(made, "late for " + quake, x -> x.late(0, quake));
            bad(made, "left for " + quake, x -> x.left(0, quake));
        }
        for (int what : beside(0, 4)) bad(made, "quake, what " + what, x -> x.quake(0, what));
    }

    static void badTowns() {
        Supplier<FirstSeconds> made = after(RefusedChangesNothingTest::manyThings);
        for (int town : beside(0, 1)) {
            bad(made, "felt in " + town, x -> x.felt(town, 0));
            bad(made, "drill in " + town, x -> x.drill(town, 1));
            bad(made, "alarm in " + town, x -> x.alarm(town, 0));
            bad(made, "late in " + town, x -> x.late(town, 0));
            bad(made, "left in " + town, x -> x.left(town, 0));
        }
        for (int level : beside(1, 4)) bad(made, "drill of " + level, x -> x.drill(0, level));
        for (int k : beside(1, 4)) bad(made, "level " + k, x -> x.level(k, 5));
        for (int f : beside(1, 6)) bad(made, "level 1 of " + f, x -> x.level(1, f));
        for (int f : beside(5, 11)) bad(made, "level 2 of " + f, x -> x.level(2, f));
        for (int f : beside(8, 15)) bad(made, "level 3 of " + f, x -> x.level(3, f));
        for (int f : beside(13, 60)) bad(made, "level 4 of " + f, x -> x.level(4, f));
    }

    static void badWhats() {
        Supplier<FirstSeconds> made = after(RefusedChangesNothingTest::manyThings);
        for (int what : beside(0, 3)) bad(made, "message, what " + what, x -> x.message(0, what));
        for (int what : beside(0, 5)) bad(made, "count " + what, x -> x.count(what));
        for (int f : beside(1, 5)) bad(made, "findings " + f, x -> x.findings(f));
    }

    // ---- FULL

    static void full() {
        Supplier<FirstSeconds> map = after(RefusedChangesNothingTest::tenStationsAndSixTowns);
        leaves(map, "station", FULL, NO_FINDING, x -> x.station(0));
        leaves(map, "town", FULL, NO_FINDING, x -> x.town(0));
        Supplier<FirstSeconds> picks = after(RefusedChangesNothingTest::sixtyPicks);
        leaves(picks, "pick", FULL, NO_FINDING, x -> x.pick(0, 0, 1));
        leaves(picks, "pick that fits a quake", FULL, NO_FINDING, x -> x.pick(1, 0, 1));
        leaves(after(RefusedChangesNothingTest::fourHundredMessages), "drill", FULL, NO_FINDING, x -> x.drill(0, 4));
    }

    // ---- STATE

    static void state() {
        Supplier<FirstSeconds> made = after(RefusedChangesNothingTest::manyThings);
        leaves(made, "rule", STATE, NO_FINDING, x -> x.rule(400, 50));
        leaves(made, "station", STATE, NO_FINDING, x -> x.station(143));
        Supplier<FirstSeconds> over = after(RefusedChangesNothingTest::allOver);
        leaves(over, "rule, all over", STATE, NO_FINDING, x -> x.rule(1, 50));
        leaves(over, "station, all over", STATE, NO_FINDING, x -> x.station(0));
    }

    // ---- FINDINGS

    static void nothingFound() {
        Supplier<FirstSeconds> made = after(RefusedChangesNothingTest::manyThings);
        found(made, "lay", NOTHING, x -> x.lay(2, 0, 5));
        found(made, "tear", NOTHING, x -> x.tear(2));
        found(made, "copy from it", NOTHING, x -> x.copy(2, 0, 0, 0, 1));
        found(made, "copy to it", NOTHING, x -> x.copy(0, 0, 2, 0, 1));
        found(made, "mean", NOTHING, x -> x.mean(2));
        found(made, "first", NOTHING, x -> x.first(2, 1, 1, 1, 1));
    }

    static void beyond() {
        Supplier<FirstSeconds> made = after(RefusedChangesNothingTest::manyThings);
        for (int i : beside(0, 3)) {
            found(made, "lay at " + i, BEYOND, x -> x.lay(0, i, 5));
            found(made, "copy from " + i, BEYOND, x -> x.copy(0, i, 0, 0, 2));
            found(made, "copy to " + i, BEYOND, x -> x.copy(0, 0, 0, i, 2));
        }
        found(made, "copy of five", BEYOND, x -> x.copy(0, 0, 0, 0, 5));
        found(made, "copy from 1, of four", BEYOND, x -> x.copy(0, 1, 0, 0, 4));
        found(made, "copy to 1, of four", BEYOND, x -> x.copy(0, 0, 0, 1, 4));
        found(made, "copy of far too many", BEYOND, x -> x.copy(0, 1, 0, 0, MOST));
    }

    static void unlike() {
        Supplier<FirstSeconds> made = after(RefusedChangesNothingTest::manyThings);
        found(made, "opening, not loose", UNLIKE, x -> x.mark(0, 3));
        found(made, "joined, not opening", UNLIKE, x -> x.mark(1, 2));
        found(made, "joined, not loose", UNLIKE, x -> x.mark(1, 3));
        Supplier<FirstSeconds> over = after(RefusedChangesNothingTest::allOver);
        found(over, "loose, not joined", UNLIKE, x -> x.mark(6, 1));
        found(over, "loose, not opening", UNLIKE, x -> x.mark(6, 2));
    }

    static void noughtAndSize() {
        Supplier<FirstSeconds> made = after(RefusedChangesNothingTest::manyThings);
        found(made, "mean of none", NOUGHT, x -> x.mean(1));
        found(made, "row of fewer than none", SIZE, x -> x.row(0, -1));
        found(made, "row of fewer than none, missing", SIZE, x -> x.row(2, LEAST));
        found(made, "copy of fewer than none", SIZE, x -> x.copy(0, 1, 0, 0, -1));
        found(made, "copy of far fewer than none", SIZE, x -> x.copy(0, 1, 0, 0, LEAST));
    }

    // ---- NONE

    static void none() {
        Supplier<FirstSeconds> over = after(RefusedChangesNothingTest::allOver);
        leaves(over, "cell", NONE, NO_FINDING, x -> x.cell(0, 0));
        leaves(over, "time", NONE, NO_FINDING, x -> x.time(0, 0, true));
        leaves(over, "low", NONE, NO_FINDING, x -> x.quake(0, 2));
        leaves(over, "high", NONE, NO_FINDING, x -> x.quake(0, 3));
        leaves(over, "felt", NONE, NO_FINDING, x -> x.felt(0, 0));
        leaves(over, "late", NONE, NO_FINDING, x -> x.late(0, 0));
        leaves(over, "left", NONE, NO_FINDING, x -> x.left(0, 0));
        leaves(over, "quake of a loose pick", NONE, NO_FINDING, x -> x.told(6, 4));
        Supplier<FirstSeconds> made = after(RefusedChangesNothingTest::manyThings);
        leaves(made, "time", NONE, NO_FINDING, x -> x.time(0, 143, true));
        leaves(made, "first", NONE, NO_FINDING, x -> x.first(1, 1, 1, 1, 1));
        for (int i : beside(0, 143)) leaves(made, "cell " + i, NONE, NO_FINDING, x -> x.cell(0, i));
        for (int i : beside(0, 399)) leaves(made, "message " + i, NONE, NO_FINDING, x -> x.message(i, 0));
    }
}
