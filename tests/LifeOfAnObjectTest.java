import java.util.ArrayList;
import java.util.List;
import java.util.function.ToLongFunction;

/** "An object is used for at most 512 calls after it has been made": the last of them is as the first, for each call. */
public final class LifeOfAnObjectTest extends Edges {
    private static final int MOST_CALLS = 512;

    private record Call(String name, ToLongFunction<FirstSeconds> call) {}

    public static void main(String[] args) throws ReflectiveOperationException {
        runAll(LifeOfAnObjectTest.class);
    }

    /** Each call of the face, so that it answers something else than a refusal. */
    private static List<Call> allCalls() {
        List<Call> all = new ArrayList<>();
        all.add(new Call("town", x -> x.town(7)));
        all.add(new Call("deaf", x -> x.deaf(2, false)));
        all.add(new Call("travel", x -> x.travel(0, 143)));
        all.add(new Call("later", x -> x.later(3)));
        all.add(new Call("row", x -> x.row(1, 5)));
        all.add(new Call("lay", x -> x.lay(0, 1, 8)));
        all.add(new Call("tear", x -> x.tear(0)));
        all.add(new Call("copy", x -> x.copy(0, 0, 0, 1, 2)));
        all.add(new Call("mean", x -> x.mean(0)));
        all.add(new Call("first", x -> x.first(0, 1, 1, 1, 1)));
        all.add(new Call("pick", x -> x.pick(1, 40, 9)));
        all.add(new Call("told", x -> x.told(0, 1)));
        all.add(new Call("mark", x -> x.mark(0, 0)));
        all.add(new Call("quake", x -> x.quake(0, 1)));
        all.add(new Call("cell", x -> x.cell(0, 3)));
        all.add(new Call("time", x -> x.time(0, 0, true)));
        all.add(new Call("holds", x -> x.holds(0, 0, 30)));
        all.add(new Call("felt", x -> x.felt(0, 0)));
        all.add(new Call("level", x -> x.level(2, 7)));
        all.add(new Call("warn", x -> x.warn()));
        all.add(new Call("drill", x -> x.drill(0, 3)));
        all.add(new Call("message", x -> x.message(0, 2)));
        all.add(new Call("alarm", x -> x.alarm(0, 0)));
        all.add(new Call("late", x -> x.late(0, 0)));
        all.add(new Call("left", x -> x.left(0, 0)));
        all.add(new Call("asked", x -> x.asked()));
        all.add(new Call("count", x -> x.count(2)));
        all.add(new Call("finding", x -> x.finding()));
        all.add(new Call("findings", x -> x.findings(NOTHING)));
        all.add(new Call("digest", x -> x.digest()));
        return all;
    }

    /** Made with 14 calls: a quake of one pick at cell 0, a row, something asked, a finding, a message. */
    private static FirstSeconds made() {
        FirstSeconds x = new FirstSeconds();
        x.rule(100, 2);
        x.station(0);
        x.station(1);
        x.station(143);
        x.deaf(2, true);
        x.town(5);
        x.row(0, 3);
        x.lay(0, 1, 6);
        x.lay(0, 1, 7);
        x.mean(1);
        x.later(40);
        x.pick(0, 38, 1000000);
        x.drill(0, 2);
        x.level(1, 1);
        return x;
    }

    private static final int CALLS_OF_MADE = 14;

    // the 512th call is answered, and changes what it changes, as the 15th
    static void theLastCallIsAsAnyOther() {
        List<Call> calls = allCalls();
        for (Call last : calls) {
            FirstSeconds x = made();
            FirstSeconds y = made();
            for (int i = CALLS_OF_MADE; i < MOST_CALLS - 1; i++) asksOnly(y, i);
            long want = last.call.applyAsLong(x);
            due.is(last.name + " is no refusal", want == BAD || want == FULL || want == STATE || want == FINDING ? 1 : 0, 0);
            due.is(last.name + " as the last call", last.call.applyAsLong(y), want);
        }
    }

    // the same call again and again: from the second time on it answers the same, where it goes not on with each call
    static void theSameCallUpToTheLast() {
        List<String> goOn = List.of("town", "later", "tear", "pick", "drill");
        for (Call call : allCalls()) {
            if (goOn.contains(call.name)) continue;
            FirstSeconds x = made();
            call.call.applyAsLong(x);
            long want = call.call.applyAsLong(x);
            for (int i = CALLS_OF_MADE + 2; i < MOST_CALLS; i++) {
                due.is(call.name + " as call " + (i + 1), call.call.applyAsLong(x), want);
            }
        }
    }

    // a call that lays the map is the 512th
    static void theMapMayBeLaidLast() {
        FirstSeconds x = new FirstSeconds();
        for (int i = 0; i < MOST_CALLS - 1; i++) asksOnly(x, i);
        due.is("station", x.station(143), 0);
        FirstSeconds y = new FirstSeconds();
        for (int i = 0; i < MOST_CALLS - 1; i++) asksOnly(y, i);
        due.is("rule", y.rule(1, 50), 1);
    }

    // all of them are one call of a new object
    static void aNewObjectIsAskedUpToTheLast() {
        FirstSeconds x = new FirstSeconds();
        for (int i = 1; i <= MOST_CALLS; i++) due.is("asked as call " + i, x.asked(), 0);
    }

    /** Calls that change nothing; most of them are asked() and digest(). */
    private static void asksOnly(FirstSeconds x, int i) {
        switch (i % 5) {
            case 0: x.digest(); break;
            case 1: x.quake(0, 1); break;
            case 2: x.count(5); break;
            default: x.asked(); break;
        }
    }

    // "what later calls answer is free": but none of them throws (LANGUAGE.md, rule 7)
    static void laterCallsDoNotThrow() {
        FirstSeconds x = made();
        int[] numbers = {0, 1, 2, 5, 9, 30, 61, 143, -1, 400, LEAST, MOST};
        for (int i = 0; i < 600; i++) {
            x.drill(0, 1 + i % 4);
            x.pick(i % 3, i % 40, 1 + i);
        }
        for (int i = 0; i < 10 * numbers.length * numbers.length; i++) {
            callsAll(x, numbers[i % numbers.length], numbers[i / numbers.length % numbers.length]);
        }
        due.is("it answers still", x.travel(0, 0), 0);
    }

    private static void callsAll(FirstSeconds x, int a, int b) {
        x.rule(a, b);
        x.station(a);
        x.town(a);
        x.deaf(a, b > 0);
        x.travel(a, b);
        x.row(a, b);
        x.lay(a, b, b);
        x.copy(a, b, a, b, a);
        x.copy(b, a, a, a, b);
        x.mean(a);
        x.first(a, b, b, a, b);
        x.first(0, a, b, 1, 1);
        x.tear(b);
        x.later(a);
        x.pick(a, b, 1);
        x.told(a, b);
        x.mark(a, b);
        x.quake(a, b);
        x.cell(a, b);
        x.time(a, b, b > 0);
        x.holds(a, b, a);
        x.holds(0, a, b);
        x.felt(a, b);
        x.level(a, b);
        x.warn();
        x.drill(a, b);
        x.message(a, b);
        x.alarm(a, b);
        x.late(a, b);
        x.left(a, b);
        x.asked();
        x.count(a);
        x.finding();
        x.findings(a);
        x.digest();
    }

    // two objects at once: what is done with one is not seen in the other one
    static void objectsShareNothing() {
        FirstSeconds x = new FirstSeconds();
        FirstSeconds y = new FirstSeconds();
        x.rule(400, 50);
        x.station(0);
        x.town(0);
        x.level(1, 1);
        x.row(0, 1);
        x.lay(0, 0, 5);
        x.lay(0, 0, 6);
        x.mean(1);
        x.row(0, -1);
        x.later(10);
        x.pick(0, 10, 1000);
        x.warn();
        x.drill(0, 1);
        due.is("slowness", y.travel(0, 1), 10);
        due.is("asked", y.asked(), 0);
        due.is("finding", y.finding(), 0);
        for (int f = 1; f <= 5; f++) due.is("findings " + f, y.findings(f), 0);
        for (int what = 0; what <= 5; what++) due.is("count " + what, y.count(what), 0);
        due.is("digest", y.digest(), 17 * 31);
        due.is("level 1", y.level(1, 4), 4);
        due.is("station", y.station(143), 0);
        due.is("pick", y.pick(0, 0, 1), 10);
        due.is("error", y.holds(0, 143, 3), 0);
        due.is("the one's asked", x.asked(), 5);
        due.is("the one's NOW", x.count(5), 10);
        due.is("the one's pick", x.told(0, 1), 10);
        due.is("the one's error", x.holds(0, 0, 60), 1);
    }
}
