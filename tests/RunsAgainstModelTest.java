import java.lang.reflect.InvocationTargetException;
import java.lang.reflect.Method;
import java.util.Arrays;
import java.util.Map;
import java.util.TreeMap;

/** Long runs of calls, each answered by the class and by the model of tests/lib; the same runs every time. */
public final class RunsAgainstModelTest {
    private static final int RUNS = 150;
    private static final int[] FAR_OFF = {Integer.MIN_VALUE, Integer.MIN_VALUE + 1, Integer.MAX_VALUE, -100001, 100001};
    /** Looked at after every so many calls. */
    private static final int ALL = 40;

    private static final Map<String, Method> OF_CLASS = methods(FirstSeconds.class);
    private static final Map<String, Method> OF_MODEL = methods(Model.class);
    private static final Due due = new Due();

    private final FirstSeconds x = new FirstSeconds();
    private final Model m = new Model();
    private final int run;
    private long seed;
    private int calls;
    /** Where and when shaking begins: most picks are of it. */
    private int source, begin;
    private final int[] cells = new int[10];

    private RunsAgainstModelTest(int run) {
        this.run = run;
        seed = 77L * run + 5;
    }

    public static void main(String[] args) throws ReflectiveOperationException {
        for (int run = 0; run < RUNS; run++) new RunsAgainstModelTest(run).run();
        due.end();
    }

    private static Map<String, Method> methods(Class<?> c) {
        Map<String, Method> all = new TreeMap<>();
        for (Method method : c.getDeclaredMethods()) {
            if (!java.lang.reflect.Modifier.isPrivate(method.getModifiers())) all.put(method.getName(), method);
        }
        return all;
    }

    /** A call to both: what the model answers. */
    private long call(String name, Object... args) throws ReflectiveOperationException {
        String told = "run " + run + " call " + calls + ": " + name + Arrays.toString(args);
        calls++;
        long want = ((Number) OF_MODEL.get(name).invoke(m, args)).longValue();
        try {
            due.is(told, ((Number) OF_CLASS.get(name).invoke(x, args)).longValue(), want);
        } catch (InvocationTargetException thrown) {
            due.is(told + " threw " + thrown.getCause(), 0, 1);
        }
        return want;
    }

    private int below(int n) {
        seed = seed * 6364136223846793005L + 1442695040888963407L;
        return (int) ((seed >>> 33) % n);
    }

    private boolean oneIn(int n) {
        return below(n) == 0;
    }

    /** Nearly always 0 to most, now and then one beside, seldom one far off. */
    private int near(int most) {
        int kind = below(40);
        if (kind == 0) return FAR_OFF[below(FAR_OFF.length)];
        if (kind == 1) return -1;
        if (kind == 2) return most + 1;
        return below(most + 1);
    }

    private void run() throws ReflectiveOperationException {
        layTheMap();
        int steps = 60 + below(200);
        for (int i = 0; i < steps && calls < 450; i++) {
            int kind = below(10);
            if (kind < 6) live(); else if (kind < 8) askOfRows(); else askOfQuakes();
            if (i % ALL == ALL - 1) askAll();
        }
    }

    private void layTheMap() throws ReflectiveOperationException {
        if (!oneIn(4)) call("rule", 1 + below(400), oneIn(3) ? 0 : below(oneIn(4) ? 51 : 8));
        int stations = 1 + below(oneIn(2) ? 10 : 4);
        for (int s = 0; s < stations; s++) {
            cells[s] = below(144);
            call("station", cells[s]);
        }
        for (int t = below(7); t > 0; t--) call("town", below(144));
        source = below(144);
    }

    private void askAll() throws ReflectiveOperationException {
        call("digest");
        call("asked");
        call("finding");
        for (int f = 1; f <= 5; f++) call("findings", f);
        for (int what = 0; what <= 5; what++) call("count", what);
    }

    /** What a run lives by: time, picks, warnings, stations that are deaf. */
    private void live() throws ReflectiveOperationException {
        int kind = below(15);
        if (kind < 4) {
            call("later", below(oneIn(6) ? 300 : 15));
        } else if (kind < 11) {
            pickTheSource();
        } else if (kind < 14) {
            call("warn");
        } else {
            call("deaf", near(9), oneIn(2));
        }
    }

    private void pickTheSource() throws ReflectiveOperationException {
        int now = m.count(5);
        if (oneIn(8)) {
            source = below(144);
            begin = Math.max(0, now - below(100));
        }
        int station = below(Math.max(1, m.count(0)));
        int tick = begin + m.travel(source, cells[station]) + below(5) - 2;
        if (tick > now && !oneIn(3)) call("later", tick - now);
        call("pick", station, tick, 1 + below(1 << below(20)));
    }

    private void askOfRows() throws ReflectiveOperationException {
        int station = near(oneIn(3) ? 9 : 1);
        int v = oneIn(3) ? (below(2001) - 1000) * 100 : below(41) - 20;
        switch (below(14)) {
            case 0: call("rule", near(400), near(50)); break;
            case 1: call("station", near(143)); break;
            case 2: call("town", near(143)); break;
            case 3: call("travel", near(143), near(143)); break;
            case 4: call("later", near(20)); break;
            case 5: call("row", station, near(30)); break;
            case 6: case 7: case 8: call("lay", station, near(20), v); break;
            case 9: if (oneIn(3)) call("tear", station); break;
            case 10: call("copy", station, near(10), oneIn(2) ? station : near(1), near(10), near(8)); break;
            case 11: call("mean", station); break;
            case 12: call("first", station, 1 + near(3), 1 + near(3), 1 + near(4), 1 + near(4)); break;
            default: call("lay", station, near(20), near(100000)); break;
        }
        call("asked");
        call("finding");
    }

    private void askOfQuakes() throws ReflectiveOperationException {
        int quake = near(4);
        int town = near(oneIn(3) ? 5 : 1);
        int cell = near(143);
        switch (below(18)) {
            case 0: call("told", near(20), near(4)); break;
            case 1: call("mark", near(20), near(3)); break;
            case 2: case 3: call("quake", quake, near(4)); break;
            case 4: call("cell", quake, near(oneIn(2) ? 143 : 5)); break;
            case 5: case 6: askTimes(quake); break;
            case 7: call("holds", quake, cell, near(200)); break;
            case 8: call("felt", town, quake); break;
            case 9: call("level", near(4), near(oneIn(2) ? 60 : 16)); break;
            case 10: call("message", near(30), near(3)); break;
            case 11: call("alarm", town, quake); break;
            case 12: call("late", town, quake); break;
            case 13: call("left", town, quake); break;
            case 14: call("count", near(5)); break;
            case 15: call("findings", near(5)); break;
            case 16: call("drill", town, near(4)); break;
            default: call("pick", near(9), near(200), near(1000000)); break;
        }
        call("finding");
    }

    /** A cell of the heap, if there is one, and the ticks at its ends and beside them. */
    private void askTimes(int quake) throws ReflectiveOperationException {
        long at = call("cell", quake, below(oneIn(2) ? 144 : 4));
        int cell = at < 0 ? near(143) : (int) at;
        boolean last = oneIn(2);
        call("time", quake, cell, last);
        int t = (int) call("asked");
        call("holds", quake, cell, t);
        call("holds", quake, cell, last ? t + 1 : t - 1);
    }
}
