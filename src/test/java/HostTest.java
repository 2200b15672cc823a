/** Promises 29 to 36: sheet, put, item, shelf, taken, act, trace, many; and section 4 of the terms. */
public final class HostTest {
    private static final int NO = StoreStreams.NO;
    private static final int BAD = StoreStreams.BAD;
    private static final int MOST = Integer.MAX_VALUE;
    private static final int[] OUTSIDE = {-1, 4, NO, MOST};

    /** THINGS of all kinds, at two numbers each, so that a is above n, n above a, and both the same. */
    private static final String ALL = "store abc=1;number de=2;helper fg=3;delay hij=1 of 1;table k=0:0,1:1;"
        + "stream l from out to out=1;helper m=1;table nnnnn=0:0,1:1;";

    public static void main(String[] args) {
        sheets();
        putting();
        items();
        shelves();
        takenKinds();
        takenRows();
        bodies();
        parted();
        wrongActs();
        traces();
        counts();
        Check.end("HostTest");
    }

    /** Promise 29. */
    private static void sheets() {
        StoreStreams x = new StoreStreams();
        for (int sort = 0; sort <= 3; sort++) {
            Check.due("sheet(0, " + sort + ", 40)", x.sheet(0, sort, 40), 1);
            Check.due("item(0, " + sort + ", 39)", x.item(0, sort, 39), 0);
        }
        x.put(0, 0, 5);
        Check.due("sheet(0, 3, 41)", x.sheet(0, 3, 41), BAD);
        Check.due("sheet(0, 3, most)", x.sheet(0, 3, MOST), BAD);
        Check.due("sheet(0, 3, -1)", x.sheet(0, 3, -1), -14);
        Check.due("sheet(0, 3, least)", x.sheet(0, 3, NO), -14);
        Check.due("item(0, 3, 0): it stays", x.item(0, 3, 0), 5);
        for (int i : OUTSIDE) Check.due("sheet(" + i + ", 0, 1)", x.sheet(i, 0, 1), BAD);
        for (int sort : new int[] {-2, 4, NO, MOST}) Check.due("sheet(0, " + sort + ", 1)", x.sheet(0, sort, 1), BAD);
        Check.due("sheet(4, 0, -1): BAD ahead of -14", x.sheet(4, 0, -1), BAD);
        Check.due("sheet(0, 4, -1): BAD ahead of -14", x.sheet(0, 4, -1), BAD);
        Check.due("sheet(0, 3, 2)", x.sheet(0, 3, 2), 1);
        Check.due("item(0, 3, 0): all 0", x.item(0, 3, 0), 0);
        Check.due("item(0, 3, 2)", x.item(0, 3, 2), -12);
        Check.due("sheet(0, 1, 0)", x.sheet(0, 1, 0), 1);
        Check.due("item(0, 1, 0)", x.item(0, 1, 0), -12);
        Check.due("sheet(0, -1, 99)", x.sheet(0, -1, 99), 1);
        Check.due("item(0, 1, 0)", x.item(0, 1, 0), -11);
        Check.due("sheet(0, -1, -99)", x.sheet(0, -1, -99), 1);
    }

    private static void narrowed(StoreStreams x, int sort, int v, int want) {
        x.sheet(2, sort, 3);
        Check.due("put(2, 1, " + v + ")", x.put(2, 1, v), 1);
        Check.due("item(2, " + sort + ", 1)", x.item(2, sort, 1), want);
        Check.due("item(2, " + sort + ", 0)", x.item(2, sort, 0), 0);
        Check.due("item(2, " + sort + ", 2)", x.item(2, sort, 2), 0);
    }

    /** Promise 30. */
    private static void putting() {
        StoreStreams x = new StoreStreams();
        narrowed(x, 0, 127, 127);
        narrowed(x, 0, 128, -128);
        narrowed(x, 0, 511, -1);
        narrowed(x, 0, NO, 0);
        narrowed(x, 1, 32767, 32767);
        narrowed(x, 1, 32768, -32768);
        narrowed(x, 1, -32769, 32767);
        narrowed(x, 2, NO, NO);
        narrowed(x, 2, MOST, MOST);
        narrowed(x, 3, -5, -5);
        narrowed(x, 3, NO, NO);
        for (int i : OUTSIDE) Check.due("put(" + i + ", 0, 1)", x.put(i, 0, 1), BAD);
        Check.due("put(0, 0, 1)", x.put(0, 0, 1), -11);
        Check.due("put(0, -1, 1): -11 ahead of -12", x.put(0, -1, 1), -11);
        for (int i : new int[] {-1, 3, 40, NO, MOST}) Check.due("put(2, " + i + ", 1)", x.put(2, i, 1), -12);
        x.sheet(3, 2, 2);
        x.put(3, 0, 9);
        Check.due("item(2, 3, 1): another SHEET", x.item(2, 3, 1), NO);
    }

    /** Promise 31. */
    private static void items() {
        StoreStreams x = new StoreStreams();
        Check.due("item(1, 0, 0)", x.item(1, 0, 0), -11);
        Check.due("item(1, 3, -1): -11 ahead of -12", x.item(1, 3, -1), -11);
        for (int i : OUTSIDE) {
            Check.due("item(" + i + ", 0, 0)", x.item(i, 0, 0), BAD);
            Check.due("item(1, " + i + ", 0)", x.item(1, i, 0), BAD);
        }
        for (int sort = 0; sort <= 3; sort++) {
            x.sheet(1, sort, 2);
            x.put(1, 1, -13);
            for (int as = 0; as <= 3; as++) {
                Check.due("item(1, " + as + ", 1)", x.item(1, as, 1), -13);
                Check.due("item(1, " + as + ", 2)", x.item(1, as, 2), as == sort ? -12 : -13);
                Check.due("item(1, " + as + ", -1)", x.item(1, as, -1), as == sort ? -12 : -13);
                Check.due("item(1, " + as + ", 0)", x.item(1, as, 0), as == sort ? 0 : -13);
            }
        }
        Check.due("item(1, 4, 0): BAD ahead of -13", x.item(1, 4, 0), BAD);
    }

    /** Promise 32. */
    private static void shelves() {
        StoreStreams x = Check.with(ALL);
        x.sheet(0, 2, 7);
        for (int i : OUTSIDE) {
            Check.due("shelf(" + i + ", 2, 0)", x.shelf(i, 2, 0), BAD);
            Check.due("shelf(0, 1, " + i + ")", x.shelf(0, 1, i), BAD);
        }
        for (int what : new int[] {-1, 3, NO, MOST}) Check.due("shelf(0, " + what + ", 0)", x.shelf(0, what, 0), BAD);
        Check.due("shelf(0, 0, 7)", x.shelf(0, 0, 7), 1);
        for (int n : new int[] {8, -1, NO, MOST}) Check.due("shelf(0, 0, " + n + ")", x.shelf(0, 0, n), BAD);
        Check.due("taken(0, 0): it stays", x.taken(0, 0), 7);
        Check.due("taken(1, 0)", x.taken(1, 0), -11);
        Check.due("shelf(1, 1, 0)", x.shelf(1, 1, 0), 1);
        Check.due("taken(1, 12)", x.taken(1, 12), 7);
        x.sheet(0, 0, 3);
        Check.due("taken(1, 12), the row of then", x.taken(1, 12), 7);
        x.sheet(0, -1, 0);
        Check.due("taken(1, 12), the row of then", x.taken(1, 12), 7);
        Check.due("shelf(1, 1, 0) of what is missing", x.shelf(1, 1, 0), 1);
        Check.due("taken(1, 12)", x.taken(1, 12), -11);
        Check.due("shelf(0, 2, 99)", x.shelf(0, 2, 99), 1);
        Check.due("taken(0, 0)", x.taken(0, 0), -11);
        x.shelf(0, 0, 1);
        x.shelf(1, 0, 3);
        Check.read(x, "store p=1;store qrs=1;");
        Check.due("taken(0, 1): the THING as it is now", x.taken(0, 1), 1);
        Check.due("taken(0, 5): the THING as it is now", x.taken(0, 5), -13);
        Check.due("act(0, 1, 4): the THING as it is now", x.act(0, 1, 4), (4 + 1) * 2 - 3);
        Check.due("taken(1, 0): no such THING any more", x.taken(1, 0), -11);
        Check.due("act(1, 0, 1): no such THING any more", x.act(1, 0, 1), 0);
    }

    /** Promise 33, things. */
    private static void takenKinds() {
        StoreStreams x = Check.with(ALL);
        int[] kinds = {1, 5, 6, 2, 4, 3, 6, 4};
        String[] under = {"01", "05", "056", "012", "034", "03", "056", "034"};
        for (int i = 0; i < 8; i++) {
            x.shelf(i % 4, 0, i);
            Check.due("thing(" + i + ", 0)", x.thing(i, 0), kinds[i]);
            for (int as = 0; as <= 6; as++) {
                int want = under[i].indexOf((char) ('0' + as)) >= 0 ? i : -13;
                Check.due("taken of " + i + " as " + as, x.taken(i % 4, as), want);
            }
            for (int as = 10; as <= 13; as++) Check.due("taken as a row", x.taken(i % 4, as), -13);
            for (int as : new int[] {-1, 7, 8, 9, 14, NO, MOST}) Check.due("taken as none", x.taken(i % 4, as), BAD);
        }
        for (int i : OUTSIDE) Check.due("taken(" + i + ", 0)", x.taken(i, 0), BAD);
    }

    /** Promise 33, rows and nothing. */
    private static void takenRows() {
        StoreStreams x = new StoreStreams();
        for (int as : new int[] {0, 6, 10, 13}) Check.due("taken(0, " + as + ") of nothing", x.taken(0, as), -11);
        Check.due("taken(0, 7) of nothing", x.taken(0, 7), BAD);
        for (int sort = 0; sort <= 3; sort++) {
            x.sheet(3, sort, 5 * sort);
            x.shelf(2, 1, 3);
            for (int as = 10; as <= 13; as++) {
                Check.due("taken(2, " + as + ")", x.taken(2, as), as == 10 + sort ? 5 * sort : -13);
            }
            for (int as = 0; as <= 6; as++) Check.due("taken(2, " + as + ")", x.taken(2, as), -13);
        }
    }

    private static void acts(StoreStreams x, int act, int on, int answer, int... trace) {
        Check.due("act(0, " + act + ", " + on + ")", x.act(0, act, on), answer);
        Check.due("many(5)", x.many(5), trace.length);
        for (int k = 0; k < trace.length; k++) Check.due("trace(" + k + ")", x.trace(k), trace[k]);
        Check.due("trace(behind)", x.trace(trace.length), StoreStreams.NONE);
    }

    /** Promises 34 and 35. */
    private static void bodies() {
        StoreStreams x = Check.with(ALL);
        x.shelf(0, 0, 0); // store, n 0, a 3
        acts(x, 0, 9, 9, 10);
        acts(x, 1, 9, 15, 20, 11, 10);
        acts(x, 2, 10, 3, 12);
        acts(x, 2, -10, -3, 12);
        acts(x, 3, 9, 15 ^ 3, 13, 20, 11, 10);
        x.shelf(0, 0, 1); // number, n 1, a 2
        acts(x, 0, 9, 6, 60, 10);
        acts(x, 1, 9, 12, 11, 60, 10);
        acts(x, 2, 9, 9, 12);
        acts(x, 3, 9, 12 ^ 2, 13, 11, 60, 10);
        x.shelf(0, 0, 3); // delay, n 3, a 3
        acts(x, 0, 9, 36, 30, 10);
        acts(x, 1, 9, 69, 20, 11, 30, 10);
        x.shelf(0, 0, 4); // table, n 4, a 1
        acts(x, 0, 9, -13, 50, 10);
        acts(x, 1, 9, -26, 11, 50, 10);
        acts(x, 2, 10, (-4 ^ 1) - 8, 51, 40, 12, 50, 10);
        acts(x, 3, 9, -26 ^ 1, 13, 11, 50, 10);
        x.shelf(0, 0, 5); // stream, n 5, a 1
        acts(x, 0, 9, 14, 10);
        acts(x, 1, 9, 28, 11, 10);
        acts(x, 2, 10, -3 ^ 1, 40, 12);
        acts(x, 2, 9, -2 ^ 1, 40, 12);
        acts(x, 2, 1, 0 ^ 1, 40, 12);
        acts(x, 2, 2, -1 ^ 1, 40, 12);
        acts(x, 3, 9, 29, 13, 11, 10);
        x.shelf(0, 0, 6); // helper, n 6, a 1: units(1) is 1 / -5
        acts(x, 0, 9, 11, 60, 10);
        acts(x, 1, 9, 22, 70, 11, 60, 10, 12);
        acts(x, 2, -10, 2, 12);
        acts(x, 3, 9, (22 ^ 1) * 2, 71, 13, 70, 11, 60, 10, 12);
        acts(x, 0, MOST, NO + 1, 60, 10);
        acts(x, 1, 1 << 30, NO + 4, 70, 11, 60, 10, 12);
        StoreStreams y = Check.with("number a=1;number b=1;delay c=1 of 1;");
        y.shelf(0, 0, 2); // delay, n 2, a 1: units(2) is 2 / -1
        acts(y, 3, 9, (65 ^ 1) - 2, 31, 13, 20, 11, 30, 10, 12);
        acts(y, 2, NO, NO, 12);
        StoreStreams z = Check.with("store a=1;helper aaa=1;");
        z.shelf(0, 0, 1); // helper, n 1, a 3: units(3) is 3 / 2
        acts(z, 1, 9, 13, 70, 11, 60, 10, 12);
        acts(z, 3, 9, (13 ^ 3) * 2, 71, 13, 70, 11, 60, 10, 12);
    }

    /** x by 0. */
    private static void parted() {
        StoreStreams x = Check.with(ALL);
        x.shelf(0, 0, 3); // delay, n 3, a 3
        acts(x, 2, 9, -15, 12);
        acts(x, 3, 9, -15, 31, 13, 20, 11, 30, 10, 12);
        x.shelf(0, 0, 2); // helper, n 2, a 2
        acts(x, 0, 9, 7, 60, 10);
        acts(x, 1, 9, -15, 70, 11, 60, 10, 12);
        acts(x, 2, 0, -15, 12);
        acts(x, 3, 9, -15, 71, 13, 70, 11, 60, 10, 12);
        StoreStreams y = Check.with("number a=1;table b=0:0,1:1;stream cd from out to out=1;");
        y.shelf(0, 0, 1); // table, n 1, a 1: reads(n) does not run any more
        acts(y, 2, 9, -15, 51, 40, 12);
        acts(y, 0, 9, -10, 50, 10);
        y.shelf(0, 0, 2); // stream, n 2, a 2
        acts(y, 2, 9, -15, 40, 12);
    }

    private static void wrongActs() {
        StoreStreams x = Check.with(ALL);
        x.shelf(0, 0, 0);
        x.sheet(0, 2, 4);
        x.shelf(1, 1, 0);
        int[][] calls = {{-1, 0}, {4, 0}, {NO, 0}, {MOST, 0}, {0, -1}, {0, 4}, {0, NO}, {0, MOST}, {1, 0}, {2, 3}};
        for (int[] call : calls) {
            Check.due("act(0, 1, 9)", x.act(0, 1, 9), 15);
            Check.due("many(5)", x.many(5), 3);
            Check.due("act(" + call[0] + ", " + call[1] + ", 9)", x.act(call[0], call[1], 9), 0);
            Check.due("many(5): no TRACE", x.many(5), 0);
            Check.due("trace(0): no TRACE", x.trace(0), StoreStreams.NONE);
        }
    }

    /** Promise 35. */
    private static void traces() {
        StoreStreams x = Check.with(ALL);
        Check.due("trace(0)", x.trace(0), StoreStreams.NONE);
        x.shelf(0, 0, 0);
        x.act(0, 1, 1);
        for (int i : new int[] {-1, 3, 29, 30, NO, MOST}) Check.due("trace(" + i + ")", x.trace(i), StoreStreams.NONE);
        Check.due("trace(2)", x.trace(2), 10);
        x.act(0, 0, 1);
        Check.due("trace(0) of the latest", x.trace(0), 10);
        Check.due("trace(1) of the latest", x.trace(1), StoreStreams.NONE);
        x.read();
        Check.due("trace(0) stays", x.trace(0), 10);
    }

    /** Promise 36. */
    private static void counts() {
        StoreStreams x = Check.with("store a=5;number n=1;");
        x.run(7);
        x.event(8, 1, 1);
        x.event(9, 1, 1);
        x.prove(0);
        x.feed(0L, 3);
        x.shelf(0, 0, 0);
        x.act(0, 3, 1);
        int[] due = {2, 7, 2, 8, 3, 4};
        for (int what = 0; what <= 5; what++) Check.due("many(" + what + ")", x.many(what), due[what]);
        for (int what : new int[] {-1, 6, NO, MOST}) Check.due("many(" + what + ")", x.many(what), BAD);
    }
}
