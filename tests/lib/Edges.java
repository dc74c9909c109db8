import java.lang.reflect.InvocationTargetException;
import java.lang.reflect.Method;
import java.lang.reflect.Modifier;
import java.util.ArrayList;
import java.util.Comparator;
import java.util.List;

/**
 * What the tests of edges share: the answers, numbers that are always beside, a few small maps, and a run of all
 * tests of a class. No object is used for more than 512 calls: what it answers after these is free.
 */
abstract class Edges {
    static final int BAD = FirstSeconds.BAD, FULL = FirstSeconds.FULL, FINDING = FirstSeconds.FINDING;
    static final int STATE = FirstSeconds.STATE, NONE = FirstSeconds.NONE;
    static final int NOTHING = 1, BEYOND = 2, UNLIKE = 3, NOUGHT = 4, SIZE = 5;
    static final int LEAST = Integer.MIN_VALUE, MOST = Integer.MAX_VALUE;
    static final Due due = new Due();

    /** Runs each static method without arguments that answers nothing; one that is forgotten there can't be. */
    static void runAll(Class<?> tests) throws ReflectiveOperationException {
        List<Method> all = new ArrayList<>();
        for (Method m : tests.getDeclaredMethods()) {
            boolean test = Modifier.isStatic(m.getModifiers()) && !m.isSynthetic() && m.getParameterCount() == 0;
            if (test && m.getReturnType() == void.class) all.add(m);
        }
        all.sort(Comparator.comparing(Method::getName));
        for (Method m : all) {
            due.begin(m.getName());
            try {
                m.invoke(null);
            } catch (InvocationTargetException thrown) {
                due.threw(thrown.getCause());
            }
        }
        System.out.println(all.size() + " tests of " + tests.getName());
        due.end();
    }

    // ---- numbers that are none

    /** The first numbers that are not taken on both sides of least .. most, and the ends of int. */
    static int[] beside(int least, int most) {
        return new int[] {least - 1, most + 1, LEAST, LEAST + 1, MOST};
    }

    static void noStation(FirstSeconds x, int station) {
        due.is("deaf of " + station, x.deaf(station, true), BAD);
        due.is("deaf no more of " + station, x.deaf(station, false), BAD);
        due.is("row of " + station, x.row(station, 1), BAD);
        due.is("lay of " + station, x.lay(station, 0, 1), BAD);
        due.is("tear of " + station, x.tear(station), BAD);
        due.is("copy of " + station, x.copy(station, 0, 0, 0, 0), BAD);
        due.is("copy to " + station, x.copy(0, 0, station, 0, 0), BAD);
        due.is("mean of " + station, x.mean(station), BAD);
        due.is("first of " + station, x.first(station, 1, 1, 1, 1), BAD);
        due.is("pick of " + station, x.pick(station, 0, 1), BAD);
    }

    static void noTown(FirstSeconds x, int town) {
        due.is("felt in " + town, x.felt(town, 0), BAD);
        due.is("drill in " + town, x.drill(town, 1), BAD);
        due.is("alarm in " + town, x.alarm(town, 0), BAD);
        due.is("late in " + town, x.late(town, 0), BAD);
        due.is("left in " + town, x.left(town, 0), BAD);
    }

    static void noPick(FirstSeconds x, int pick) {
        for (int what = 0; what <= 4; what++) due.is("told of " + pick, x.told(pick, what), BAD);
        for (int kind = 0; kind <= 3; kind++) due.is("mark of " + pick, x.mark(pick, kind), BAD);
    }

    static void noQuake(FirstSeconds x, int quake) {
        for (int what = 0; what <= 4; what++) due.is("quake " + quake, x.quake(quake, what), BAD);
        due.is("cell of " + quake, x.cell(quake, 0), BAD);
        due.is("first time of " + quake, x.time(quake, 0, false), BAD);
        due.is("last time of " + quake, x.time(quake, 0, true), BAD);
        due.is("holds of " + quake, x.holds(quake, 0, 0), BAD);
        due.is("felt by " + quake, x.felt(0, quake), BAD);
        due.is("alarm for " + quake, x.alarm(0, quake), BAD);
        due.is("late for " + quake, x.late(0, quake), BAD);
        due.is("left for " + quake, x.left(0, quake), BAD);
    }

    // ---- small maps

    /** Station 0 at cell 0, slowness 400, no error: each quake's heap has all cells, a single T in each. */
    static FirstSeconds oneStation() {
        FirstSeconds x = new FirstSeconds();
        x.rule(400, 0);
        x.station(0);
        return x;
    }

    /** Stations 0 and 1 at one cell (0), so that no cell is nearer to one of them; slowness 100. */
    static FirstSeconds twins(int error) {
        FirstSeconds x = new FirstSeconds();
        x.rule(100, error);
        x.station(0);
        x.station(0);
        return x;
    }

    /** Stations 0 and 1 at cells 0 and 1: ten ticks apart; no error. */
    static FirstSeconds neighbours() {
        FirstSeconds x = new FirstSeconds();
        x.rule(100, 0);
        x.station(0);
        x.station(1);
        return x;
    }

    /** Quake 0 can only be at cell 0, T 0; NOW is 10. */
    static FirstSeconds oneCell(int strength) {
        FirstSeconds x = neighbours();
        x.later(10);
        due.is("opens", x.pick(0, 0, strength), 10);
        due.is("joins", x.pick(1, 10, 1), 0);
        due.is("one cell", x.quake(0, 1), 1);
        return x;
    }

    /** Quake 0 is over, as long as station 1 is not deaf; NOW is 100. */
    static FirstSeconds over(int strength) {
        FirstSeconds x = neighbours();
        x.pick(0, 0, strength);
        x.later(100);
        due.is("over", x.quake(0, 4), 1);
        return x;
    }

    // ---- rows

    static void lays(FirstSeconds x, int station, int... readings) {
        due.is("row", x.row(station, readings.length), readings.length);
        for (int i = 0; i < readings.length; i++) due.is("lay", x.lay(station, i, readings[i]), 1);
    }

    /** Asks each reading by laying it anew, and that there is none more. */
    static void reads(FirstSeconds x, int station, int... readings) {
        for (int i = 0; i < readings.length; i++) {
            due.is("lay", x.lay(station, i, readings[i]), 1);
            due.is("reading " + i, x.asked(), readings[i]);
        }
        due.is("no reading more", x.lay(station, readings.length, 0), FINDING);
    }

    // ---- messages

    static void message(FirstSeconds x, int i, int town, int quake, int level, int now) {
        due.is("message " + i + " town", x.message(i, 0), town);
        due.is("message " + i + " quake", x.message(i, 1), quake);
        due.is("message " + i + " level", x.message(i, 2), level);
        due.is("message " + i + " now", x.message(i, 3), now);
    }

    static void drills(FirstSeconds x, int from, int to) {
        for (int i = from; i <= to; i++) due.is("drill", x.drill(0, 1), i);
    }
}
