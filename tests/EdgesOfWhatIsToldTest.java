import java.math.BigInteger;
import java.util.ArrayList;
import java.util.List;

/** The edges of promises 29 to 33, of FINDINGS and of the digest; above each test the document's words. */
public final class EdgesOfWhatIsToldTest extends Edges {
    public static void main(String[] args) throws ReflectiveOperationException {
        runAll(EdgesOfWhatIsToldTest.class);
    }

    /** h = 17; then h = 31 h + v, reckoned without bounds and then cut to a long. */
    private static long digestOf(List<Integer> values) {
        BigInteger h = BigInteger.valueOf(17);
        for (int v : values) h = h.multiply(BigInteger.valueOf(31)).add(BigInteger.valueOf(v));
        return h.longValue();
    }

    private static void add(List<Integer> values, int... more) {
        for (int v : more) values.add(v);
    }

    // ---- Promise 29: asked

    // "What the latest lay(), time() that answered 1 told; 0 before."
    static void askedIsNoneBefore() {
        FirstSeconds x = new FirstSeconds();
        due.is("at first", x.asked(), 0);
        x.station(0);
        due.is("lay of nothing", x.lay(0, 0, 5), FINDING);
        due.is("0 still", x.asked(), 0);
        x.row(0, 1);
        due.is("lay beyond", x.lay(0, 1, 5), FINDING);
        due.is("0 still", x.asked(), 0);
        due.is("lay of too much", x.lay(0, 0, 100001), BAD);
        due.is("0 still", x.asked(), 0);
        due.is("time of no quake", x.time(0, 0, true), BAD);
        due.is("0 still", x.asked(), 0);
    }

    // the ends of what it can tell: readings of +-100000, T of -361 and of 100050
    static void askedTellsWhatIsFarOff() {
        FirstSeconds x = new FirstSeconds();
        x.rule(400, 50);
        x.station(0);
        x.row(0, 1);
        x.lay(0, 0, 100000);
        due.is("0", x.asked(), 0);
        x.lay(0, 0, -100000);
        due.is("100000", x.asked(), 100000);
        x.lay(0, 0, -1);
        due.is("-100000", x.asked(), -100000);
        x.lay(0, 0, -9);
        due.is("-1 is no BAD", x.asked(), -1);
        due.is("a reading of -9 answers 1", x.lay(0, 0, 0), 1);
        due.is("-9 is no NONE", x.asked(), -9);
        x.pick(0, 0, 1);
        due.is("time", x.time(0, 143, false), 1);
        due.is("-361", x.asked(), -361);
        x.later(100000);
        x.pick(0, 100000, 1);
        due.is("time", x.time(1, 0, true), 1);
        due.is("100050", x.asked(), 100050);
    }

    // "the latest .. that answered 1": NONE, what is refused, and all other calls leave it
    static void askedStays() {
        FirstSeconds x = oneCell(5);
        x.town(0);
        x.row(0, 2);
        x.row(1, 2);
        x.lay(0, 0, 77);
        x.lay(0, 0, 78);
        due.is("77", x.asked(), 77);
        x.time(0, 1, true);
        x.time(0, 144, true);
        x.time(1, 0, true);
        x.lay(0, 2, 1);
        x.lay(0, 0, -100001);
        x.lay(2, 0, 1);
        x.copy(0, 0, 1, 0, 2);
        x.row(0, 2);
        x.tear(0);
        x.lay(0, 0, 1);
        x.mean(1);
        x.first(1, 1, 1, 1, 1);
        x.told(0, 1);
        x.mark(0, 0);
        x.quake(0, 0);
        x.cell(0, 0);
        x.holds(0, 0, 0);
        x.felt(0, 0);
        x.level(1, 5);
        x.warn();
        x.drill(0, 1);
        x.message(0, 0);
        x.alarm(0, 0);
        x.late(0, 0);
        x.left(0, 0);
        x.deaf(0, true);
        x.later(1);
        x.travel(0, 1);
        x.pick(0, 0, 1);
        x.count(5);
        x.findings(1);
        x.digest();
        due.is("77 still", x.asked(), 77);
        due.is("time", x.time(0, 0, true), 1);
        due.is("the latest", x.asked(), 0);
        x.lay(1, 0, 1);
        due.is("the latest", x.asked(), 78);
    }

    // ---- Promise 30: count

    // "0 STATIONS .. 5 NOW. BAD."
    static void countsAreNoneToFive() {
        FirstSeconds x = new FirstSeconds();
        for (int what : beside(0, 5)) due.is("count " + what, x.count(what), BAD);
        for (int what = 0; what <= 5; what++) due.is("count " + what, x.count(what), 0);
    }

    // as many as there may be of each, and one more that is refused
    static void countsOfAllThatThereMayBe() {
        FirstSeconds x = new FirstSeconds();
        for (int i = 0; i <= 10; i++) x.station(0);
        for (int i = 0; i <= 6; i++) x.town(0);
        for (int i = 0; i <= 60; i++) x.pick(0, 0, 1);
        for (int i = 0; i <= 400; i++) x.drill(0, 1);
        x.later(100000);
        x.later(1);
        int[] most = {10, 6, 60, 5, 400, 100000};
        for (int what = 0; what <= 5; what++) due.is("count " + what, x.count(what), most[what]);
    }

    // a LOOSE pick is one, and a quake that is OVER is one
    static void countsOfLooseAndOver() {
        FirstSeconds x = neighbours();
        for (int i = 0; i < 7; i++) x.pick(0, 0, 1);
        x.later(100);
        due.is("picks", x.count(2), 7);
        due.is("quakes", x.count(3), 5);
        due.is("over", x.quake(4, 4), 1);
    }

    // ---- Promises 31 and 32: finding, findings

    // "The latest FINDING (0 before any)": each of them in each call that can answer it
    static void eachFindingInEachCall() {
        FirstSeconds x = new FirstSeconds();
        x.station(0);
        x.station(1);
        x.pick(0, 0, 1);
        due.is("0 before any", x.finding(), 0);
        due.finds("NOTHING of lay", x, x.lay(0, 0, 1), NOTHING, 1);
        due.finds("SIZE of row", x, x.row(0, -1), SIZE, 1);
        due.finds("NOTHING of tear", x, x.tear(0), NOTHING, 2);
        due.finds("SIZE of copy", x, x.copy(0, 0, 1, 0, -1), SIZE, 2);
        due.finds("NOTHING of copy", x, x.copy(0, 0, 1, 0, 0), NOTHING, 3);
        due.finds("UNLIKE of mark", x, x.mark(0, 3), UNLIKE, 1);
        due.finds("NOTHING of mean", x, x.mean(0), NOTHING, 4);
        x.row(0, 0);
        due.finds("NOUGHT of mean", x, x.mean(0), NOUGHT, 1);
        due.finds("BEYOND of lay", x, x.lay(0, 0, 1), BEYOND, 1);
        due.finds("NOTHING of first", x, x.first(1, 1, 1, 1, 1), NOTHING, 5);
        due.finds("BEYOND of copy", x, x.copy(0, 0, 0, 0, 1), BEYOND, 2);
        int[] times = {5, 2, 1, 1, 2};
        for (int f = 1; f <= 5; f++) due.is("findings " + f, x.findings(f), times[f - 1]);
    }

    // "How often a FINDING (1 .. 5) was answered. BAD."
    static void findingsAreOneToFive() {
        FirstSeconds x = new FirstSeconds();
        for (int f = 1; f <= 5; f++) due.is("findings " + f, x.findings(f), 0);
        for (int f : beside(1, 5)) due.is("findings " + f, x.findings(f), BAD);
        due.is("that is no finding", x.finding(), 0);
    }

    // as often as calls there are
    static void findingsOften() {
        FirstSeconds x = new FirstSeconds();
        x.station(0);
        for (int i = 0; i < 500; i++) due.is("mean", x.mean(0), FINDING);
        due.is("often", x.findings(NOTHING), 500);
        due.is("latest", x.finding(), NOTHING);
    }

    // other refusals and NONE leave both
    static void findingStays() {
        FirstSeconds x = over(1);
        x.row(0, 0);
        due.finds("NOUGHT", x, x.mean(0), NOUGHT, 1);
        due.is("BAD", x.mean(2), BAD);
        due.is("STATE", x.station(0), STATE);
        due.is("NONE of first", x.first(0, 1, 1, 1, 1), NONE);
        due.is("NONE of time", x.time(0, 0, true), NONE);
        due.is("NONE of cell", x.cell(0, 0), NONE);
        due.is("NONE of message", x.message(0, 0), NONE);
        due.is("what is taken", x.row(0, 1), 1);
        due.is("what is taken", x.mean(0), 0);
        due.is("finding", x.finding(), NOUGHT);
        for (int f = 1; f <= 5; f++) due.is("findings " + f, x.findings(f), f == NOUGHT ? 1 : 0);
    }

    // ---- Promise 33: digest

    // "h = 17; then h = 31 h + v": of none, NOW alone
    static void digestOfNone() {
        due.is("at first", new FirstSeconds().digest(), 527);
        FirstSeconds x = new FirstSeconds();
        x.later(100000);
        due.is("at the end of NOW", x.digest(), 100527);
        for (int i = 0; i < 6; i++) x.town(i);
        x.level(1, 1);
        x.mean(0);
        due.is("towns, levels, refusals are not in it", x.digest(), 100527);
    }

    // "of each STATION its ROW's size (-1: missing) and readings": none, missing, as many as there may be
    static void digestOfRows() {
        FirstSeconds x = new FirstSeconds();
        List<Integer> v = new ArrayList<>();
        add(v, 0);
        for (int s = 0; s < 10; s++) {
            x.station(s);
            int n = s == 0 ? 0 : s == 9 ? -1 : 30;
            add(v, n);
            if (n >= 0) x.row(s, n);
            for (int i = 0; i < n; i++) {
                int reading = (i % 2 == 0 ? 100000 : -100000) + (i % 2 == 0 ? -i : s);
                x.lay(s, i, reading);
                add(v, reading);
            }
        }
        due.is("rows", x.digest(), digestOf(v));
    }

    // a row that was longer is as long as it is now
    static void digestOfRowsThatWereLonger() {
        FirstSeconds x = new FirstSeconds();
        x.station(0);
        lays(x, 0, 1, 2, 3);
        due.is("three", x.digest(), digestOf(List.of(0, 3, 1, 2, 3)));
        x.row(0, 2);
        due.is("two", x.digest(), digestOf(List.of(0, 2, 0, 0)));
        x.tear(0);
        due.is("missing", x.digest(), digestOf(List.of(0, -1)));
        x.row(0, 0);
        due.is("none", x.digest(), digestOf(List.of(0, 0)));
    }

    // "of each PICK told() 0 to 4; of each QUAKE quake() 0 to 4": as many as there may be, then all over
    static void digestOfPicksAndQuakes() {
        FirstSeconds x = oneStation();
        x.station(0);
        x.deaf(1, true);
        List<Integer> v = new ArrayList<>();
        add(v, 9, -1, -1);
        x.later(9);
        for (int i = 0; i < 60; i++) {
            x.pick(0, 9, 1000000 - i);
            add(v, 0, 9, 1000000 - i, i < 5 ? 2 : 3, i < 5 ? i : NONE);
        }
        List<Integer> w = new ArrayList<>(v);
        for (int i = 0; i < 5; i++) add(v, 1, 144, 20, 29, 0);
        due.is("five quakes of all cells", x.digest(), digestOf(v));
        x.later(1);
        x.deaf(1, false);
        w.set(0, 10);
        for (int i = 0; i < 5; i++) add(w, 1, 0, NONE, NONE, 1);
        due.is("five quakes that are over", x.digest(), digestOf(w));
    }

    // "of each MESSAGE that is kept message() 0 to 3": 400 of them, and none that isn't kept
    static void digestOfMessages() {
        FirstSeconds x = new FirstSeconds();
        x.town(0);
        x.town(1);
        List<Integer> v = new ArrayList<>();
        add(v, 40);
        for (int i = 0; i < 400; i++) {
            if (i % 10 == 0) x.later(1);
            due.is("drill", x.drill(i % 2, 1 + i % 4), i + 1);
            add(v, i % 2, NONE, 1 + i % 4, 1 + i / 10);
        }
        due.is("400", x.digest(), digestOf(v));
        due.is("one more", x.drill(0, 1), FULL);
        due.is("400 still", x.digest(), digestOf(v));
    }

    // a LEVEL that was TAKEN BACK is below 0 in it
    static void digestOfWhatWasTakenBack() {
        FirstSeconds x = over(512);
        x.town(0);
        x.level(1, 1);
        x.deaf(1, true);
        due.is("10 less the 8 bits of 156", x.felt(0, 0), 2);
        due.is("told", x.warn(), 1);
        x.deaf(1, false);
        due.is("taken back", x.warn(), 1);
        List<Integer> v = new ArrayList<>();
        add(v, 100, -1, -1);
        add(v, 0, 0, 512, 2, 0);
        add(v, 1, 0, NONE, NONE, 1);
        add(v, 0, 0, 1, 100);
        add(v, 0, 0, -1, 100);
        due.is("digest", x.digest(), digestOf(v));
    }

    // "asked() stays", and so does all else
    static void digestChangesNothing() {
        FirstSeconds x = oneCell(5);
        x.row(0, 1);
        x.lay(0, 0, 5);
        x.lay(0, 0, 6);
        long h = x.digest();
        due.is("digest", x.digest(), h);
        due.is("asked", x.asked(), 5);
        due.is("finding", x.finding(), 0);
        due.is("quake", x.quake(0, 1), 1);
    }
}
