import java.util.Arrays;

/** The edges of the ROWS and of promises 8 to 13; above each test the document's words. */
public final class EdgesOfRowsTest extends Edges {
    public static void main(String[] args) throws ReflectiveOperationException {
        runAll(EdgesOfRowsTest.class);
    }

    private static FirstSeconds stations(int n) {
        FirstSeconds x = new FirstSeconds();
        for (int i = 0; i < n; i++) x.station(i);
        return x;
    }

    private static int[] all(int n, int reading) {
        int[] readings = new int[n];
        Arrays.fill(readings, reading);
        return readings;
    }

    // ---- ROWS: one for each STATION, of 0 to 30 ints, or missing (at first)

    // "missing (at first)": NOTHING in each call that needs a row; none of these makes one
    static void rowsAreMissingAtFirst() {
        FirstSeconds x = stations(10);
        for (int s = 0; s < 10; s++) {
            due.finds("lay", x, x.lay(s, 0, 1), NOTHING, 5 * s + 1);
            due.finds("tear", x, x.tear(s), NOTHING, 5 * s + 2);
            due.finds("copy", x, x.copy(s, 0, s, 0, 0), NOTHING, 5 * s + 3);
            due.finds("mean", x, x.mean(s), NOTHING, 5 * s + 4);
            due.finds("first", x, x.first(s, 1, 1, 1, 1), NOTHING, 5 * s + 5);
        }
        long h = 17 * 31;
        for (int s = 0; s < 10; s++) h = 31 * h - 1;
        due.is("digest: all are missing", x.digest(), h);
    }

    // "one for each STATION": the first and the last one's are their own
    static void eachStationHasItsOwn() {
        FirstSeconds x = stations(10);
        lays(x, 0, 4, 5);
        lays(x, 9, 6, 7, 8);
        reads(x, 0, 4, 5);
        reads(x, 9, 6, 7, 8);
        due.is("tear", x.tear(0), 1);
        reads(x, 9, 6, 7, 8);
        due.is("the second to last has none", x.mean(8), FINDING);
    }

    // ---- Promise 8: row

    // "BAD: also n above 30; SIZE." (5 SIZE: fewer than none)
    static void rowsAreOfNoneToThirty() {
        FirstSeconds x = stations(1);
        due.is("30", x.row(0, 30), 30);
        due.is("the thirtieth", x.lay(0, 29, 7), 1);
        due.is("31", x.row(0, 31), BAD);
        due.is("far too many", x.row(0, MOST), BAD);
        due.is("no finding yet", x.finding(), 0);
        due.finds("one fewer than none", x, x.row(0, -1), SIZE, 1);
        due.finds("far fewer than none", x, x.row(0, LEAST), SIZE, 2);
        due.is("what was refused leaves the row", x.lay(0, 29, 8), 1);
        due.is("what was refused leaves the readings", x.asked(), 7);
        due.is("1", x.row(0, 1), 1);
        due.is("none", x.row(0, 0), 0);
        due.finds("a row of none has no reading", x, x.lay(0, 0, 1), BEYOND, 1);
        due.is("it is not missing", x.tear(0), 1);
    }

    // "The ROW of a STATION has n readings 0": also where there were others
    static void rowsBeginWithNoughts() {
        FirstSeconds x = stations(1);
        lays(x, 0, all(30, 9));
        due.is("fewer", x.row(0, 29), 29);
        reads(x, 0, all(29, 0));
        lays(x, 0, all(29, 9));
        due.is("more", x.row(0, 30), 30);
        reads(x, 0, all(30, 0));
        lays(x, 0, all(30, 9));
        due.is("torn", x.tear(0), 1);
        due.is("after it was missing", x.row(0, 30), 30);
        reads(x, 0, all(30, 0));
    }

    // ---- Promise 9: lay

    // "BAD: v not -100000 .. 100000"
    static void readingsAreHundredThousandAtMost() {
        FirstSeconds x = stations(1);
        x.row(0, 1);
        int was = 0;
        for (int v : new int[] {100000, 99999, -100000, -99999, 0}) {
            due.is("lay of " + v, x.lay(0, 0, v), 1);
            due.is("what it was", x.asked(), was);
            for (int bad : beside(-100000, 100000)) due.is("lay of " + bad, x.lay(0, 0, bad), BAD);
            due.is("asked stays", x.asked(), was);
            was = v;
        }
        x.lay(0, 0, 5);
        due.is("the latest", x.asked(), 0);
    }

    // "BEYOND (a place that there is not)": ahead of the first, behind the last
    static void placesEndWithTheRow() {
        for (int n : new int[] {0, 1, 2, 29, 30}) {
            FirstSeconds x = stations(2);
            x.row(0, n);
            x.row(1, 30);
            int times = 0;
            for (int i : beside(0, n - 1)) due.finds("place " + i + " of " + n, x, x.lay(0, i, 1), BEYOND, ++times);
            due.finds("place 30 of " + n, x, x.lay(0, 30, 1), BEYOND, ++times);
            due.is("nothing was told", x.asked(), 0);
            if (n > 0) due.is("the first of " + n, x.lay(0, 0, 1), 1);
            if (n > 0) due.is("the last of " + n, x.lay(0, n - 1, 1), 1);
        }
    }

    // "NOTHING (a ROW that is missing)": once it was torn, until it begins anew
    static void aTornRowTakesNoReading() {
        FirstSeconds x = stations(1);
        lays(x, 0, 3);
        x.tear(0);
        due.finds("lay", x, x.lay(0, 0, 1), NOTHING, 1);
        due.is("asked stays", x.asked(), 0);
        x.row(0, 1);
        due.is("lay", x.lay(0, 0, 1), 1);
    }

    // ---- Promise 10: tear

    // "A ROW is missing: 1. BAD; NOTHING."
    static void aRowIsTornOnce() {
        FirstSeconds x = stations(2);
        due.finds("missing at first", x, x.tear(0), NOTHING, 1);
        x.row(0, 0);
        due.is("a row of none", x.tear(0), 1);
        due.finds("torn already", x, x.tear(0), NOTHING, 2);
        x.row(0, 30);
        x.row(1, 30);
        due.is("a row of thirty", x.tear(0), 1);
        due.finds("torn already", x, x.tear(0), NOTHING, 3);
        due.is("the other one", x.tear(1), 1);
        due.is("digest: both are missing", x.digest(), ((17 * 31) * 31 - 1) * 31 - 1);
    }

    // ---- Promise 11: copy

    // "SIZE: n below 0"
    static void copyOfFewerThanNone() {
        FirstSeconds x = stations(2);
        lays(x, 0, 1, 2, 3);
        lays(x, 1, 4, 5, 6);
        due.finds("-1", x, x.copy(0, 1, 1, 1, -1), SIZE, 1);
        due.finds("far below", x, x.copy(0, 1, 1, 1, LEAST), SIZE, 2);
        due.finds("from the end", x, x.copy(0, 3, 1, 3, -3), SIZE, 3);
        reads(x, 1, 4, 5, 6);
        due.is("none", x.copy(0, 1, 1, 1, 0), 1);
        reads(x, 1, 4, 5, 6);
        due.is("1", x.copy(0, 1, 1, 1, 1), 1);
        reads(x, 1, 4, 2, 6);
    }

    // "NOTHING: either"
    static void copyFromOrToNothing() {
        FirstSeconds x = stations(3);
        lays(x, 0, 1, 2);
        due.finds("the other one", x, x.copy(0, 0, 1, 0, 1), NOTHING, 1);
        due.finds("the one", x, x.copy(1, 0, 0, 0, 1), NOTHING, 2);
        due.finds("both", x, x.copy(1, 0, 2, 0, 1), NOTHING, 3);
        due.finds("itself", x, x.copy(1, 0, 1, 0, 1), NOTHING, 4);
        due.finds("none, from nothing", x, x.copy(1, 0, 0, 0, 0), NOTHING, 5);
        due.finds("none, to nothing", x, x.copy(0, 0, 1, 0, 0), NOTHING, 6);
        reads(x, 0, 1, 2);
    }

    // "BEYOND: not so many there": from the one
    static void copyFromBeyond() {
        FirstSeconds x = stations(2);
        x.row(0, 4);
        x.row(1, 30);
        due.is("all", x.copy(0, 0, 1, 0, 4), 1);
        due.is("up to the end", x.copy(0, 3, 1, 0, 1), 1);
        due.is("none at the end", x.copy(0, 4, 1, 0, 0), 1);
        int[][] beyond = {{0, 5}, {1, 4}, {3, 2}, {4, 1}, {5, 0}, {5, 1}, {-1, 0}, {-1, 1}, {-1, 5}, {30, 0}, {LEAST, 0}, {MOST, 0}};
        for (int i = 0; i < beyond.length; i++) {
            int[] b = beyond[i];
            due.finds(b[1] + " from " + b[0], x, x.copy(0, b[0], 1, 0, b[1]), BEYOND, i + 1);
        }
    }

    // "BEYOND: not so many there": to the other one
    static void copyToBeyond() {
        FirstSeconds x = stations(2);
        x.row(0, 30);
        x.row(1, 4);
        due.is("all", x.copy(0, 0, 1, 0, 4), 1);
        due.is("up to the end", x.copy(0, 0, 1, 3, 1), 1);
        due.is("none at the end", x.copy(0, 0, 1, 4, 0), 1);
        int[][] beyond = {{0, 5}, {1, 4}, {3, 2}, {4, 1}, {5, 0}, {5, 1}, {-1, 0}, {-1, 1}, {-1, 5}, {30, 0}, {LEAST, 0}, {MOST, 0}};
        for (int i = 0; i < beyond.length; i++) {
            int[] b = beyond[i];
            due.finds(b[1] + " to " + b[0], x, x.copy(0, 0, 1, b[0], b[1]), BEYOND, i + 1);
        }
    }

    // a sum that is large: a place and n go around the ends of int
    static void copyGoesNotAround() {
        FirstSeconds x = stations(2);
        lays(x, 0, all(30, 1));
        lays(x, 1, all(30, 2));
        int[][] far = {{MOST, 1}, {1, MOST}, {MOST, MOST}, {29, MOST}, {MOST - 29, 30}, {LEAST, MOST}, {LEAST + 1, MOST}};
        int times = 0;
        for (int[] f : far) {
            due.finds(f[1] + " from " + f[0], x, x.copy(0, f[0], 1, 0, f[1]), BEYOND, ++times);
            due.finds(f[1] + " to " + f[0], x, x.copy(0, 0, 1, f[0], f[1]), BEYOND, ++times);
            due.finds(f[1] + " from and to " + f[0], x, x.copy(0, f[0], 1, f[0], f[1]), BEYOND, ++times);
        }
        reads(x, 1, all(30, 2));
    }

    // as many as there may be
    static void copyOfThirty() {
        FirstSeconds x = stations(2);
        int[] readings = new int[30];
        for (int i = 0; i < 30; i++) readings[i] = 3 * i - 40;
        lays(x, 0, readings);
        x.row(1, 30);
        due.is("thirty", x.copy(0, 0, 1, 0, 30), 1);
        due.finds("thirty from 1", x, x.copy(0, 1, 1, 0, 30), BEYOND, 1);
        due.finds("thirty to 1", x, x.copy(0, 0, 1, 1, 30), BEYOND, 2);
        due.finds("31", x, x.copy(0, 0, 1, 0, 31), BEYOND, 3);
        reads(x, 1, readings);
        due.is("thirty onto itself", x.copy(0, 0, 0, 0, 30), 1);
        reads(x, 0, readings);
    }

    // "(perhaps itself) from one on, as if taken ahead": on and back, by one place and by many
    static void copyOntoItself() {
        for (int by = 1; by <= 5; by++) {
            FirstSeconds x = stations(1);
            int[] on = {1, 2, 3, 4, 5, 6};
            lays(x, 0, on);
            due.is("on by " + by, x.copy(0, 0, 0, by, 6 - by), 1);
            System.arraycopy(on.clone(), 0, on, by, 6 - by);
            reads(x, 0, on);
            int[] back = {1, 2, 3, 4, 5, 6};
            lays(x, 0, back);
            due.is("back by " + by, x.copy(0, by, 0, 0, 6 - by), 1);
            System.arraycopy(back.clone(), by, back, 0, 6 - by);
            reads(x, 0, back);
        }
    }

    // ---- Promise 12: mean

    // "NOUGHT (shared among none)"; "NOTHING"
    static void meanOfNone() {
        FirstSeconds x = stations(1);
        due.finds("missing", x, x.mean(0), NOTHING, 1);
        x.row(0, 0);
        due.finds("of none", x, x.mean(0), NOUGHT, 1);
        due.finds("of none", x, x.mean(0), NOUGHT, 2);
        x.row(0, 1);
        due.is("of one", x.mean(0), 0);
        x.tear(0);
        due.finds("torn", x, x.mean(0), NOTHING, 2);
    }

    // "The mean size (without signs) of a ROW's readings, cut."
    static void meanIsCut() {
        FirstSeconds x = stations(1);
        lays(x, 0, -1);
        due.is("of one", x.mean(0), 1);
        lays(x, 0, 1, -1);
        due.is("signs do not even out", x.mean(0), 1);
        lays(x, 0, -1, 0);
        due.is("a half", x.mean(0), 0);
        lays(x, 0, -2, 1);
        due.is("one and a half", x.mean(0), 1);
        lays(x, 0, 1, 1, 1, -2);
        due.is("five quarters", x.mean(0), 1);
        lays(x, 0, 2, 2, 2, -1);
        due.is("seven quarters", x.mean(0), 1);
        lays(x, 0, -2, -2, -2, -2);
        due.is("eight quarters", x.mean(0), 2);
    }

    // a sum that is large
    static void meanOfThirty() {
        FirstSeconds x = stations(1);
        lays(x, 0, all(30, 100000));
        due.is("the greatest", x.mean(0), 100000);
        lays(x, 0, all(30, -100000));
        due.is("the least", x.mean(0), 100000);
        x.lay(0, 29, 99999);
        due.is("one below", x.mean(0), 99999);
    }

    // ---- Promise 13: first

    // "s and l places (1 .. 10 each)"; "BAD: also s, l, a, b (1 .. 1000)"
    static void firstHasBounds() {
        FirstSeconds x = stations(1);
        x.row(0, 30);
        for (int bad : beside(1, 10)) {
            due.is("s " + bad, x.first(0, bad, 1, 1, 1), BAD);
            due.is("l " + bad, x.first(0, 1, bad, 1, 1), BAD);
        }
        for (int bad : beside(1, 1000)) {
            due.is("a " + bad, x.first(0, 1, 1, bad, 1), BAD);
            due.is("b " + bad, x.first(0, 1, 1, 1, bad), BAD);
        }
        due.is("the least of all", x.first(0, 1, 1, 1, 1), NONE);
        due.is("the most of all", x.first(0, 10, 10, 1000, 1000), NONE);
        x.lay(0, 10, 1);
        due.is("s 1, l 10", x.first(0, 1, 10, 1000, 1), 10);
        due.is("s 10, l 1", x.first(0, 10, 1, 1, 1000), 1);
        due.is("s 10, l 10", x.first(0, 10, 10, 1000, 1000), 10);
        due.is("no finding", x.finding(), 0);
    }

    // "NOTHING"; a row of none, and rows that are too short: NONE
    static void firstOfNothingAndOfNone() {
        FirstSeconds x = stations(1);
        due.finds("missing", x, x.first(0, 1, 1, 1, 1), NOTHING, 1);
        lays(x, 0, 1);
        x.tear(0);
        due.finds("torn", x, x.first(0, 1, 1, 1, 1), NOTHING, 2);
        due.is("row", x.row(0, 0), 0);
        due.is("of none", x.first(0, 1, 1, 1, 1), NONE);
        due.is("of none", x.first(0, 10, 10, 1, 1000), NONE);
        lays(x, 0, 9);
        due.is("of one", x.first(0, 1, 1, 1, 1), NONE);
        lays(x, 0, 0, 9);
        due.is("of two", x.first(0, 1, 1, 1, 1), 1);
        lays(x, 0, all(19, 0));
        x.lay(0, 10, 9);
        due.is("10 and 10 of 19", x.first(0, 10, 10, 1, 1), NONE);
        x.row(0, 20);
        x.lay(0, 10, 9);
        due.is("10 and 10 of 20", x.first(0, 10, 10, 1, 1), 10);
    }

    // "the first place i from l on"
    static void firstBeginsAtL() {
        FirstSeconds x = stations(1);
        lays(x, 0, 0, 0, 0, 5, 5, 5, 5);
        due.is("from 3 on", x.first(0, 1, 3, 1, 1), 3);
        due.is("from 4 on: above three quarters of it", x.first(0, 1, 4, 1, 1), 4);
        lays(x, 0, 0, 5, 0, 0, 0, 5, 0);
        due.is("from 1 on", x.first(0, 1, 1, 1, 1), 1);
        due.is("1 is ahead of 2", x.first(0, 1, 2, 1, 1), 5);
        due.is("5 is 5 on", x.first(0, 1, 5, 1, 1), 5);
        due.is("5 is ahead of 6", x.first(0, 1, 6, 1, 1), NONE);
    }

    // "s places at least ahead of the end"
    static void firstEndsAtS() {
        FirstSeconds x = stations(1);
        lays(x, 0, 0, 0, 0, 0, 5, 5);
        due.is("one to the end", x.first(0, 1, 5, 1, 1), 5);
        due.is("two to the end", x.first(0, 2, 4, 1, 1), 4);
        due.is("three to the end", x.first(0, 3, 3, 1, 1), 3);
        due.is("two, one place too late", x.first(0, 2, 5, 1, 1), NONE);
        due.is("three, one place too late", x.first(0, 3, 4, 1, 1), NONE);
        due.is("six are all", x.first(0, 6, 1, 1, 1), NONE);
        due.is("five", x.first(0, 5, 1, 1, 1), 1);
    }

    // "is above": not if they are even; "the sizes", without signs
    static void firstIsAbove() {
        FirstSeconds x = stations(1);
        lays(x, 0, 10, -15, 10);
        due.is("a by b below", x.first(0, 1, 1, 149, 100), 1);
        due.is("even", x.first(0, 1, 1, 150, 100), NONE);
        due.is("above", x.first(0, 1, 1, 151, 100), NONE);
        lays(x, 0, -1, 1, -1, 1);
        due.is("all of a size", x.first(0, 1, 1, 1, 1), NONE);
        due.is("all of a size, two", x.first(0, 2, 2, 1, 1), NONE);
        due.is("all of a size, two by one", x.first(0, 2, 1, 1, 1), NONE);
        due.is("all of a size, one by two", x.first(0, 1, 2, 1, 1), NONE);
        due.is("b above a", x.first(0, 1, 2, 999, 1000), 2);
        due.is("a above b", x.first(0, 1, 2, 1000, 999), NONE);
        lays(x, 0, all(30, 0));
        due.is("none is not above none", x.first(0, 1, 1, 1, 1000), NONE);
        x.lay(0, 29, 1);
        due.is("one is above none", x.first(0, 1, 1, 1000, 1), 29);
    }

    // products that are large: 10 of 100000, times 10, times 1000, on both sides
    static void firstOfLargeProducts() {
        FirstSeconds x = stations(1);
        lays(x, 0, all(20, 100000));
        due.is("even", x.first(0, 10, 10, 1000, 1000), NONE);
        due.is("10000000000 above 9990000000", x.first(0, 10, 10, 999, 1000), 10);
        due.is("9990000000 below 10000000000", x.first(0, 10, 10, 1000, 999), NONE);
        // in ints 10000000000 goes around to 1410065408
        for (int i = 0; i < 10; i++) x.lay(0, i, 20000);
        due.is("10000000000 above 2000000000", x.first(0, 10, 10, 1000, 1000), 10);
        for (int i = 0; i < 10; i++) x.lay(0, i, -100000);
        for (int i = 10; i < 20; i++) x.lay(0, i, 20000);
        due.is("2000000000 below 10000000000", x.first(0, 10, 10, 1000, 1000), NONE);
        // and 2500000000 goes around to one below 0
        for (int i = 10; i < 20; i++) x.lay(0, i, 25000);
        for (int i = 0; i < 10; i++) x.lay(0, i, 1000);
        due.is("2500000000 above 100000000", x.first(0, 10, 10, 1000, 1000), 10);
        for (int i = 0; i < 10; i++) x.lay(0, i, 25000);
        for (int i = 10; i < 20; i++) x.lay(0, i, 1000);
        due.is("100000000 below 2500000000", x.first(0, 10, 10, 1000, 1000), NONE);
    }
}
