/** Promises 21 to 28: what is felt and told in towns. */
public final class TownsTest {
    private static final int BAD = FirstSeconds.BAD, FULL = FirstSeconds.FULL, NONE = FirstSeconds.NONE;
    private static final int LEAST = Integer.MIN_VALUE, MOST = Integer.MAX_VALUE;
    private static final Due due = new Due();

    public static void main(String[] args) {
        feltIsLowLessALoss();
        levelsNeedMoreAndMore();
        eachLevelIsToldOnce();
        allFourLevels();
        levelsAreTakenBackOnce();
        quakesInTheirOrder();
        drills();
        messagesThatAreKept();
        alarms();
        tooLateAndSafeStill();
        timeLeft();
        due.end();
    }

    /** One station at cell 0, slowness 400, no error: a quake's heap has all cells; low is the strength's bits. */
    private static FirstSeconds oneStation() {
        FirstSeconds x = new FirstSeconds();
        x.rule(400, 0);
        x.station(0);
        return x;
    }

    /** Town 0 at cell 0 (loss 9), town 1 at cell 66 (loss 8). Station 1 at cell 143 is deaf. */
    private static FirstSeconds twoTowns() {
        FirstSeconds x = oneStation();
        x.station(143);
        x.deaf(1, true);
        x.town(0);
        x.town(66);
        return x;
    }

    private static void hears(FirstSeconds x, int i, int town, int quake, int level, int now) {
        due.is("message " + i + " town", x.message(i, 0), town);
        due.is("message " + i + " quake", x.message(i, 1), quake);
        due.is("message " + i + " level", x.message(i, 2), level);
        due.is("message " + i + " now", x.message(i, 3), now);
    }

    private static void feltIsLowLessALoss() {
        FirstSeconds x = twoTowns();
        due.is("felt", x.felt(0, 0), BAD);
        x.pick(0, 0, 1000000);
        due.is("20 less 9", x.felt(0, 0), 11);
        due.is("20 less 8", x.felt(1, 0), 12);
        due.is("felt", x.felt(2, 0), BAD);
        due.is("felt", x.felt(-1, 0), BAD);
        due.is("felt", x.felt(0, 1), BAD);
        due.is("felt", x.felt(0, -1), BAD);
        due.is("felt", x.felt(LEAST, MOST), BAD);
        x.pick(0, 0, 255);
        due.is("8 less 9", x.felt(0, 1), 0);
        due.is("8 less 8", x.felt(1, 1), 0);
        x.later(1000);
        x.deaf(1, false);
        due.is("no cell", x.felt(0, 0), NONE);

        FirstSeconds y = new FirstSeconds();
        y.rule(100, 0);
        y.station(0);
        y.station(1);
        y.town(0);
        y.town(1);
        y.later(10);
        y.pick(0, 0, 8);
        due.is("joins", y.pick(1, 10, 8), 0);
        due.is("one cell", y.quake(0, 1), 1);
        due.is("4 less the one bit of 0 and 1", y.felt(0, 0), 3);
        due.is("4 less the four bits of 10 and 1", y.felt(1, 0), 0);
    }

    private static void levelsNeedMoreAndMore() {
        FirstSeconds x = new FirstSeconds();
        due.is("level", x.level(0, 1), BAD);
        due.is("level", x.level(5, 20), BAD);
        due.is("level", x.level(LEAST, 20), BAD);
        due.is("level", x.level(MOST, 20), BAD);
        due.is("level", x.level(1, 0), BAD);
        due.is("level", x.level(1, LEAST), BAD);
        due.is("level", x.level(1, 8), BAD);
        due.is("level", x.level(2, 4), BAD);
        due.is("level", x.level(2, 12), BAD);
        due.is("level", x.level(3, 8), BAD);
        due.is("level", x.level(3, 16), BAD);
        due.is("level", x.level(4, 12), BAD);
        due.is("level", x.level(4, 61), BAD);
        due.is("level", x.level(4, MOST), BAD);
        due.is("level", x.level(1, 1), 4);
        due.is("level", x.level(1, 7), 1);
        due.is("level", x.level(1, 7), 7);
        due.is("level", x.level(4, 60), 16);
        due.is("level", x.level(3, 59), 12);
        due.is("level", x.level(4, 59), BAD);
        due.is("level", x.level(4, 60), 60);
    }

    private static void eachLevelIsToldOnce() {
        FirstSeconds x = twoTowns();
        due.is("warn", x.warn(), 0);
        x.later(5);
        x.pick(0, 0, 1000000);
        due.is("2 and 3", x.warn(), 5);
        hears(x, 0, 0, 0, 1, 5);
        hears(x, 1, 0, 0, 2, 5);
        hears(x, 2, 1, 0, 1, 5);
        hears(x, 3, 1, 0, 2, 5);
        hears(x, 4, 1, 0, 3, 5);
        due.is("once", x.warn(), 0);
        x.level(3, 11);
        x.later(1);
        due.is("one more for town 0", x.warn(), 1);
        hears(x, 5, 0, 0, 3, 6);
        x.level(3, 13);
        due.is("what was told stays", x.warn(), 0);
        due.is("alarm", x.alarm(0, 0), 3);
        x.town(143);
        due.is("a new town", x.warn(), 2);
        hears(x, 6, 2, 0, 1, 6);
        hears(x, 7, 2, 0, 2, 6);
        due.is("messages", x.count(4), 8);
    }

    private static void allFourLevels() {
        FirstSeconds x = twoTowns();
        for (int k = 1; k <= 4; k++) x.level(k, 7 + k);
        x.pick(0, 0, 1000000);
        due.is("11 needs 8, 9, 10, 11", x.felt(0, 0), 11);
        due.is("four in each town", x.warn(), 8);
        due.is("alarm", x.alarm(0, 0), 4);
        hears(x, 3, 0, 0, 4, 0);
        x.pick(0, 0, 65536);
        due.is("17 less 9", x.felt(0, 1), 8);
        due.is("one and two", x.warn(), 3);
        due.is("alarm", x.alarm(0, 1), 1);
        due.is("alarm", x.alarm(1, 1), 2);
        x.later(400);
        x.deaf(1, false);
        due.is("all taken back", x.warn(), 11);
        hears(x, 14, 0, 0, -4, 400);
        hears(x, 18, 1, 0, -4, 400);
        hears(x, 21, 1, 1, -2, 400);
        due.is("alarm", x.alarm(0, 0), 0);
    }

    private static void levelsAreTakenBackOnce() {
        FirstSeconds x = twoTowns();
        x.pick(0, 0, 1000000);
        x.level(2, 11);
        x.level(3, 12);
        due.is("warn", x.warn(), 5);
        x.later(400);
        due.is("a deaf station is not missed", x.warn(), 0);
        x.deaf(1, false);
        due.is("over", x.quake(0, 4), 1);
        due.is("nothing is taken back ahead of warn", x.alarm(1, 0), 3);
        due.is("taken back", x.warn(), 5);
        hears(x, 5, 0, 0, -1, 400);
        hears(x, 6, 0, 0, -2, 400);
        hears(x, 7, 1, 0, -1, 400);
        hears(x, 8, 1, 0, -2, 400);
        hears(x, 9, 1, 0, -3, 400);
        due.is("once", x.warn(), 0);
        due.is("alarm", x.alarm(0, 0), 0);
        due.is("alarm", x.alarm(1, 0), 0);
        x.deaf(1, true);
        due.is("over no more", x.quake(0, 4), 0);
        due.is("each was told, once", x.warn(), 0);
        due.is("alarm", x.alarm(1, 0), 0);
        x.level(2, 10);
        x.level(3, 11);
        due.is("a level that town 0 was not told", x.warn(), 1);
        hears(x, 10, 0, 0, 3, 400);
        due.is("alarm", x.alarm(0, 0), 3);
        x.deaf(1, false);
        due.is("only that one is taken back", x.warn(), 1);
        hears(x, 11, 0, 0, -3, 400);
        due.is("alarm", x.alarm(0, 0), 0);
    }

    private static void quakesInTheirOrder() {
        FirstSeconds x = twoTowns();
        x.pick(0, 0, 4095);
        due.is("0: 12 less 9, less 8", x.warn(), 1);
        hears(x, 0, 1, 0, 1, 0);
        x.deaf(1, false);
        x.later(1000);
        x.pick(0, 1000, 1000000);
        due.is("over", x.quake(0, 4), 1);
        due.is("not over", x.quake(1, 4), 0);
        int f0 = x.felt(0, 1);
        int f1 = x.felt(1, 1);
        int told = f0 / 4 + f1 / 4;
        due.is("0 taken back, 1 told", x.warn(), 1 + told);
        hears(x, 1, 1, 0, -1, 1000);
        hears(x, 2, 0, 1, 1, 1000);
        hears(x, 1 + told, 1, 1, f1 / 4, 1000);
    }

    private static void drills() {
        FirstSeconds x = oneStation();
        due.is("drill", x.drill(0, 1), BAD);
        x.town(7);
        x.later(3);
        due.is("drill", x.drill(0, 4), 1);
        due.is("drill", x.drill(0, 1), 2);
        hears(x, 0, 0, NONE, 4, 3);
        hears(x, 1, 0, NONE, 1, 3);
        due.is("drill", x.drill(0, 0), BAD);
        due.is("drill", x.drill(0, 5), BAD);
        due.is("drill", x.drill(0, LEAST), BAD);
        due.is("drill", x.drill(0, MOST), BAD);
        due.is("drill", x.drill(1, 1), BAD);
        due.is("drill", x.drill(-1, 1), BAD);
        due.is("messages", x.count(4), 2);
        due.is("no quake", x.count(3), 0);
        x.pick(0, 0, 1000000);
        due.is("no alarm", x.alarm(0, 0), 0);
        due.is("drills are not taken for warnings", x.warn(), 2);
        for (int i = 5; i <= 400; i++) due.is("drill", x.drill(0, 2), i);
        due.is("drill", x.drill(0, 2), FULL);
        due.is("BAD is ahead of FULL", x.drill(1, 2), BAD);
        due.is("messages", x.count(4), 400);
    }

    private static void messagesThatAreKept() {
        FirstSeconds x = oneStation();
        due.is("message", x.message(0, 0), NONE);
        x.town(0);
        x.drill(0, 3);
        due.is("message", x.message(1, 0), NONE);
        due.is("message", x.message(-1, 0), NONE);
        due.is("message", x.message(LEAST, 0), NONE);
        due.is("message", x.message(MOST, 3), NONE);
        due.is("message", x.message(0, -1), BAD);
        due.is("message", x.message(0, 4), BAD);
        due.is("message", x.message(0, LEAST), BAD);
        due.is("BAD is ahead of NONE", x.message(1, 4), BAD);
        for (int i = 2; i <= 399; i++) x.drill(0, 1);
        x.pick(0, 0, 1000000);
        due.is("two are told", x.warn(), 2);
        hears(x, 399, 0, 0, 1, 0);
        due.is("400 are kept", x.message(400, 2), NONE);
        due.is("401 there are", x.count(4), 401);
        due.is("told all the same", x.alarm(0, 0), 2);
        due.is("once", x.warn(), 0);
        due.is("drill", x.drill(0, 1), FULL);
    }

    private static void alarms() {
        FirstSeconds x = twoTowns();
        due.is("alarm", x.alarm(0, 0), BAD);
        x.pick(0, 0, 1000000);
        due.is("ahead of warn", x.alarm(1, 0), 0);
        x.warn();
        due.is("alarm", x.alarm(0, 0), 2);
        due.is("alarm", x.alarm(1, 0), 3);
        due.is("alarm", x.alarm(2, 0), BAD);
        due.is("alarm", x.alarm(-1, 0), BAD);
        due.is("alarm", x.alarm(0, 1), BAD);
        due.is("alarm", x.alarm(0, -1), BAD);
        due.is("alarm", x.alarm(LEAST, MOST), BAD);
        x.pick(0, 0, 1);
        due.is("each quake has its own", x.alarm(1, 1), 0);
    }

    private static void tooLateAndSafeStill() {
        FirstSeconds x = new FirstSeconds();
        due.is("late", x.late(0, 0), BAD);
        x.rule(100, 2);
        x.station(0);
        x.station(1);
        x.town(0);
        x.town(5);
        x.later(30);
        x.pick(0, 20, 1);
        due.is("joins", x.pick(1, 30, 1), 0);
        // ten ticks nearer to 0, less or more four: T at cell 0 is 18 .. 22
        due.is("cell 0 is in", x.holds(0, 0, 20), 1);
        due.is("town 0 feels it from 18 on", x.late(0, 0), 1);
        due.is("town 1 feels it later", x.late(1, 0), 2);
        due.is("late", x.late(2, 0), BAD);
        due.is("late", x.late(-1, 0), BAD);
        due.is("late", x.late(0, 1), BAD);
        due.is("late", x.late(0, -1), BAD);
        due.is("late", x.late(LEAST, MOST), BAD);

        FirstSeconds y = oneStation();
        y.town(0);
        y.town(143);
        y.later(10);
        y.pick(0, 10, 1);
        due.is("at the tick itself it is too late", y.late(0, 0), 1);
        due.is("sooner in some, later in some", y.late(1, 0), 0);

        FirstSeconds z = new FirstSeconds();
        z.rule(100, 0);
        z.station(0);
        z.station(1);
        z.town(11);
        z.later(10);
        z.pick(0, 0, 1);
        z.pick(1, 10, 1);
        due.is("one cell", z.quake(0, 1), 1);
        z.later(99);
        due.is("one tick ahead", z.late(0, 0), 2);
        z.later(1);
        due.is("at the tick", z.late(0, 0), 1);

        FirstSeconds v = new FirstSeconds();
        v.rule(100, 1);
        v.station(0);
        v.station(1);
        v.town(11);
        v.later(12);
        v.pick(0, 0, 1);
        v.pick(1, 12, 1);
        due.is("one cell, T is 1", v.quake(0, 1), 1);
        v.later(98);
        due.is("110 is ahead of 111", v.late(0, 0), 2);
        v.later(1);
        due.is("111", v.late(0, 0), 1);

        FirstSeconds u = new FirstSeconds();
        u.rule(100, 2);
        u.station(0);
        u.town(0);
        u.later(10);
        u.pick(0, 10, 1);
        due.is("some T are NOW at most, some are not", u.late(0, 0), 0);

        FirstSeconds s = new FirstSeconds();
        s.rule(100, 1);
        s.station(0);
        s.station(1);
        s.town(2);
        s.later(20);
        s.pick(0, 9, 1);
        s.pick(1, 20, 1);
        due.is("one cell", s.quake(0, 1), 1);
        due.is("its T", s.holds(0, 0, 9) + s.holds(0, 0, 10), 2);
        s.later(8);
        due.is("29 and 30 are ahead", s.late(0, 0), 2);
        s.later(1);
        due.is("29 is NOW, 30 is ahead", s.late(0, 0), 0);
        s.later(1);
        due.is("30 is NOW", s.late(0, 0), 1);

        FirstSeconds w = new FirstSeconds();
        w.rule(100, 0);
        w.station(0);
        w.station(1);
        w.town(0);
        w.pick(0, 0, 1);
        w.later(100);
        due.is("no cell", w.late(0, 0), NONE);
    }

    private static void timeLeft() {
        FirstSeconds x = new FirstSeconds();
        due.is("left", x.left(0, 0), BAD);
        x.rule(100, 5);
        x.station(0);
        x.town(0);
        x.town(3);
        x.later(10);
        x.pick(0, 10, 1);
        due.is("below 0", x.left(0, 0), 0);
        due.is("from cell 3 on: -20 less the error", x.left(1, 0), 0);
        due.is("left", x.left(2, 0), BAD);
        due.is("left", x.left(-1, 0), BAD);
        due.is("left", x.left(0, 1), BAD);
        due.is("left", x.left(0, -1), BAD);
        due.is("left", x.left(LEAST, MOST), BAD);

        FirstSeconds y = new FirstSeconds();
        y.rule(100, 1);
        y.station(0);
        y.station(1);
        y.town(11);
        y.later(12);
        y.pick(0, 0, 1);
        due.is("joins", y.pick(1, 12, 1), 0);
        due.is("ten ticks and the error twice", y.quake(0, 1), 1);
        due.is("its first T", y.time(0, 0, false), 1);
        due.is("its first T", y.asked(), 1);
        due.is("1 and 110 less 12", y.left(0, 0), 99);
        y.later(98);
        due.is("left", y.left(0, 0), 1);
        y.later(1);
        due.is("left", y.left(0, 0), 0);
        y.later(1);
        due.is("left", y.left(0, 0), 0);

        FirstSeconds z = new FirstSeconds();
        z.rule(100, 0);
        z.station(0);
        z.station(1);
        z.town(0);
        z.pick(0, 0, 1);
        z.later(100);
        due.is("no cell", z.left(0, 0), NONE);
    }
}
