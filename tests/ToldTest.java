/** Promises 29 to 33: what is told of all. */
public final class ToldTest {
    private static final int BAD = FirstSeconds.BAD, NONE = FirstSeconds.NONE;
    private static final int LEAST = Integer.MIN_VALUE, MOST = Integer.MAX_VALUE;
    private static final Due due = new Due();

    public static void main(String[] args) {
        askedIsTheLatest();
        counts();
        findingsAreCounted();
        digestTellsAll();
        due.end();
    }

    private static void askedIsTheLatest() {
        FirstSeconds x = new FirstSeconds();
        due.is("before", x.asked(), 0);
        x.station(0);
        x.station(1);
        x.row(0, 2);
        x.lay(0, 1, -7);
        due.is("lay", x.asked(), 0);
        x.lay(0, 1, 8);
        due.is("lay", x.asked(), -7);
        x.lay(0, 2, 8);
        x.lay(0, 0, 100001);
        x.lay(1, 0, 5);
        due.is("refused tells nothing", x.asked(), -7);
        x.later(50);
        x.pick(0, 45, 9);
        x.pick(1, 45, 9);
        due.is("a cell out of the heap", x.time(0, 0, true), NONE);
        due.is("NONE tells nothing", x.asked(), -7);
        x.time(1, 0, true);
        due.is("BAD tells nothing", x.asked(), -7);
        int cell = x.cell(0, 0);
        due.is("time", x.time(0, cell, true), 1);
        int last = x.asked();
        due.is("holds", x.holds(0, cell, last), 1);
        due.is("holds", x.holds(0, cell, last + 1), 0);
        due.is("time", x.time(0, cell, false), 1);
        int first = x.asked();
        due.is("holds", x.holds(0, cell, first), 1);
        due.is("holds", x.holds(0, cell, first - 1), 0);
        x.digest();
        due.is("asked stays", x.asked(), first);
        x.lay(0, 1, 3);
        due.is("lay", x.asked(), 8);
    }

    private static void counts() {
        FirstSeconds x = new FirstSeconds();
        for (int i = 0; i < 3; i++) x.station(i);
        for (int i = 0; i < 2; i++) x.town(i);
        x.later(9);
        x.pick(0, 9, 1000000);
        x.pick(0, 9, 1);
        x.pick(0, 9, 1);
        x.pick(1, 9, 1);
        x.drill(0, 1);
        due.is("stations", x.count(0), 3);
        due.is("towns", x.count(1), 2);
        due.is("picks", x.count(2), 4);
        due.is("quakes", x.count(3), 3);
        due.is("messages", x.count(4), 1);
        due.is("messages", x.count(4) + x.warn(), x.count(4));
        due.is("now", x.count(5), 9);
        due.is("count", x.count(-1), BAD);
        due.is("count", x.count(6), BAD);
        due.is("count", x.count(LEAST), BAD);
        due.is("count", x.count(MOST), BAD);
    }

    private static void findingsAreCounted() {
        FirstSeconds x = new FirstSeconds();
        x.station(0);
        x.pick(0, 0, 1);
        due.is("finding", x.finding(), 0);
        due.finds("SIZE", x, x.row(0, -1), 5, 1);
        due.finds("NOTHING", x, x.mean(0), 1, 1);
        due.finds("UNLIKE", x, x.mark(0, 3), 3, 1);
        x.row(0, 0);
        due.finds("BEYOND", x, x.lay(0, 0, 1), 2, 1);
        due.finds("NOUGHT", x, x.mean(0), 4, 1);
        x.mean(1);
        x.station(1);
        x.count(9);
        due.is("other refusals leave it", x.finding(), 4);
        due.finds("BEYOND", x, x.lay(0, 0, 1), 2, 2);
        for (int f = 1; f <= 5; f++) due.is("findings", x.findings(f), f == 2 ? 2 : 1);
        due.is("findings", x.findings(0), BAD);
        due.is("findings", x.findings(6), BAD);
        due.is("findings", x.findings(LEAST), BAD);
        due.is("findings", x.findings(MOST), BAD);
        due.is("BAD is no finding", x.finding(), 2);
    }

    private static long mix(long h, int... values) {
        for (int v : values) h = 31 * h + v;
        return h;
    }

    private static void digestTellsAll() {
        FirstSeconds x = new FirstSeconds();
        due.is("digest", x.digest(), mix(17, 0));
        x.rule(400, 0);
        x.later(25);
        due.is("now", x.digest(), mix(17, 25));
        x.station(0);
        x.station(13);
        due.is("missing rows", x.digest(), mix(17, 25, -1, -1));
        x.row(1, 3);
        x.lay(1, 0, -5);
        x.lay(1, 2, 6);
        due.is("readings", x.digest(), mix(17, 25, -1, 3, -5, 0, 6));
        x.row(0, 0);
        due.is("a row of none", x.digest(), mix(17, 25, 0, 3, -5, 0, 6));
        x.town(0);
        due.is("towns are not in it", x.digest(), mix(17, 25, 0, 3, -5, 0, 6));
        x.deaf(1, true);
        x.pick(0, 25, 1000000);
        long rows = mix(17, 25, 0, 3, -5, 0, 6);
        due.is("picks and quakes", x.digest(), mix(rows, 0, 25, 1000000, 2, 0, 1, 144, 20, 29, 0));
        for (int i = 0; i < 4; i++) x.pick(0, 25, 1);
        x.pick(0, 24, 2);
        long picks = mix(rows, 0, 25, 1000000, 2, 0);
        for (int i = 1; i <= 4; i++) picks = mix(picks, 0, 25, 1, 2, i);
        picks = mix(picks, 0, 24, 2, 3, NONE);
        long all = mix(picks, 1, 144, 20, 29, 0);
        for (int i = 1; i <= 4; i++) all = mix(all, 1, 144, 1, 9, 0);
        due.is("a loose pick", x.digest(), all);
        x.drill(0, 3);
        due.is("a message", x.digest(), mix(all, 0, NONE, 3, 25));
        x.warn();
        due.is("messages", x.digest(), mix(all, 0, NONE, 3, 25, 0, 0, 1, 25, 0, 0, 2, 25));
        x.deaf(1, false);
        x.mean(0);
        x.later(100);
        due.is("quakes that are over", x.quake(0, 4), 1);
        long h = mix(17, 125, 0, 3, -5, 0, 6);
        h = mix(h, 0, 25, 1000000, 2, 0);
        for (int i = 1; i <= 4; i++) h = mix(h, 0, 25, 1, 2, i);
        h = mix(h, 0, 24, 2, 3, NONE);
        for (int i = 0; i <= 4; i++) h = mix(h, 1, 0, NONE, NONE, 1);
        due.is("quakes that are over", x.digest(), mix(h, 0, NONE, 3, 25, 0, 0, 1, 25, 0, 0, 2, 25));
    }
}
