/** Promises 19 to 24: rest, swing, pull, best, miss, fit; and what section 3 of the terms says of thought. */
public final class ThoughtTest {
    private static final int NO = StoreStreams.NO;
    private static final int BAD = StoreStreams.BAD;
    private static final int NONE = StoreStreams.NONE;
    private static final int MOST = Integer.MAX_VALUE;

    public static void main(String[] args) {
        rests();
        swings();
        pulls();
        bests();
        misses();
        fits();
        nothingChanges();
        Check.end("ThoughtTest");
    }

    /** Promise 19. */
    private static void rests() {
        StoreStreams x = Check.with("store a=10;stream f from a to out=3;");
        // 10, 7, 4, 1, 0, 0
        Check.due("rest(200)", x.rest(200), 4);
        Check.due("rest(4)", x.rest(4), 4);
        Check.due("rest(3)", x.rest(3), NONE);
        Check.due("rest(0)", x.rest(0), NONE);
        x.run(3);
        Check.due("rest(1) at 3", x.rest(1), 1);
        x.run(1);
        Check.due("rest(0) at 4", x.rest(0), 0);
        for (int n : new int[] {-1, 201, NO, MOST}) Check.due("rest(" + n + ")", x.rest(n), BAD);
        x = Check.with("number n=1;helper h=n;stream f from out to out=n;");
        Check.due("rest(0) without a STORE", x.rest(0), 0);
        x = Check.with("store a=99999;stream f from a to out=1000;");
        x.run(60);
        Check.due("rest(200) beyond step 60", x.rest(200), 40);
        Check.due("rest(39)", x.rest(39), NONE);
        Check.due("rest(40)", x.rest(40), 40);
        x = Check.with("store a=99999;stream f from a to out=400;");
        Check.due("rest(200), too far", x.rest(200), NONE);
        x.run(50);
        Check.due("rest(200), the last", x.rest(200), 200);
        Check.due("rest(199)", x.rest(199), NONE);
        x = Check.with("store a=10;number k=1;stream f from a to out=k;");
        x.event(3, 1, 0);
        x.event(5, 1, 1);
        Check.due("rest(9) with EVENTS", x.rest(9), 3);
        x.run(4);
        Check.due("rest(9) at 4", x.rest(9), 0);
        x.run(1);
        Check.due("rest(9) at 5", x.rest(9), 7);
        x = Check.with("store a=5;store b=5;stream f from a to b=2;stream g from b to a=2;");
        Check.due("rest(0), what goes comes", x.rest(0), 0);
    }

    private static void swing(StoreStreams x, int n, int found, int between) {
        Check.due("swing(" + n + ", 0)", x.swing(n, 0), found);
        Check.due("swing(" + n + ", 1)", x.swing(n, 1), between);
    }

    /** Promise 20. */
    private static void swings() {
        StoreStreams x = Check.with("store a=5;store b=3;stream f from a to b=a;stream g from b to a=b;");
        swing(x, 60, 2, 2);
        swing(x, 2, 2, 2);
        swing(x, 1, NONE, NONE);
        swing(x, 0, NONE, NONE);
        for (int n : new int[] {-1, 61, NO, MOST}) Check.due("swing(" + n + ", 0)", x.swing(n, 0), BAD);
        for (int what : new int[] {-1, 2, NO, MOST}) Check.due("swing(9, " + what + ")", x.swing(9, what), BAD);
        x = Check.with("store a=10;stream f from a to out=3;");
        swing(x, 60, 5, 1);
        swing(x, 4, NONE, NONE);
        x = Check.with("store a=5;store b=3;store c=4;stream f from a to b=a;stream g from b to a=b;"
            + "stream h from c to out=2;");
        // c: 4, 2, 0, 0, 0
        swing(x, 60, 4, 2);
        x.run(1);
        swing(x, 60, 3, 2);
        x = Check.with("number n=1;");
        swing(x, 1, 1, 1);
        swing(x, 0, NONE, NONE);
        x = Check.with("store a=99;number k=1;stream f from a to out=k;stream g from out to a=-k;");
        x.event(2, 1, 1 - 2);
        // 99, 98, 97, 98
        swing(x, 60, 3, 2);
        x = Check.with("store a=99999;stream f from a to out=1;");
        x.run(60);
        swing(x, 60, NONE, NONE);
    }

    /** Promise 21. */
    private static void pulls() {
        StoreStreams x = Check.with("store a=10;number k=2;stream f from out to a=k;helper h=k*k;table t=0:0,1:1;"
            + "delay d=3 of k;");
        Check.due("pull on the STORE", x.pull(1, 3, 0, 5), 15);
        Check.due("pull on the NUMBER", x.pull(1, 3, 1, 0), 3);
        Check.due("pull on the STREAM", x.pull(1, 3, 2, 0), 3);
        Check.due("pull on the HELPER", x.pull(1, 3, 3, 60), 21);
        Check.due("pull on the TABLE", x.pull(1, 3, 4, 60), 0);
        Check.due("pull on the DELAY, too early", x.pull(1, 3, 5, 2), 0);
        Check.due("pull on the DELAY", x.pull(1, 3, 5, 3), 3);
        Check.due("pull with less", x.pull(1, -1, 0, 5), -5);
        Check.due("pull with a STREAM that is 0 then", x.pull(1, -9, 0, 5), -10);
        Check.due("pull by the least int", x.pull(1, NO, 1, 0), NO);
        x.change(1, MOST);
        Check.due("pull that wraps", x.pull(1, 1, 1, 0), 1);
        x.begin();
        x.event(2, 1, 7);
        Check.due("pull till an EVENT", x.pull(1, 3, 0, 5), 6);
        x.run(3);
        Check.due("pull behind it", x.pull(1, 3, 0, 5), 15);
        for (int n : new int[] {-1, 61, NO, MOST}) Check.due("pull(.., " + n + ")", x.pull(1, 3, 0, n), NO);
        for (int i : new int[] {0, 2, 3, 6, -1, NO, MOST}) Check.due("pull(" + i + ")", x.pull(i, 3, 0, 5), NO);
        for (int i : new int[] {6, -1, NO, MOST}) Check.due("pull(.., " + i + ")", x.pull(1, 3, i, 5), NO);
    }

    /** Promise 22. */
    private static void bests() {
        StoreStreams x = Check.with("store a=0;number k=0;stream f from out to a=k*(10-k);");
        Check.due("best(0 to 10)", x.best(1, 0, 10, 0, 1), 5);
        Check.due("best(0 to 20)", x.best(1, 0, 20, 0, 3), 5);
        Check.due("best(0 to 21)", x.best(1, 0, 21, 0, 3), NO);
        Check.due("best(6 to 9)", x.best(1, 6, 9, 0, 1), 6);
        Check.due("best is the second", x.best(1, 4, 7, 0, 1), 5);
        Check.due("best is the last", x.best(1, 2, 4, 0, 1), 4);
        Check.due("best(1 to 1)", x.best(1, 1, 1, 0, 1), 1);
        Check.due("best(1 to 0)", x.best(1, 1, 0, 0, 1), NO);
        Check.due("best of the same, the least", x.best(1, -3, -1, 0, 1), -3);
        Check.due("best without a step", x.best(1, 3, 6, 0, 0), 3);
        Check.due("best(low most, high least)", x.best(1, MOST, NO, 0, 1), NO);
        Check.due("best(low least, high most)", x.best(1, NO, MOST, 0, 1), NO);
        Check.due("best, high wraps", x.best(1, MOST, MOST + 3, 0, 1), NO);
        Check.due("best of the highest", x.best(1, MOST - 20, MOST, 0, 0), MOST - 20);
        for (int n : new int[] {-1, 61, NO, MOST}) Check.due("best(.., " + n + ")", x.best(1, 0, 3, 0, n), NO);
        for (int i : new int[] {0, 2, 3, -1}) Check.due("best(" + i + ")", x.best(i, 0, 3, 0, 1), NO);
        for (int i : new int[] {1, 2, 3, -1}) Check.due("best(.., " + i + ")", x.best(1, 0, 3, i, 1), NO);
        x = Check.with("store a=0;number k=0;stream f from out to a=9-(k=3)*9+k;");
        x.event(1, 1, 3);
        // from step 1 on the EVENT takes what is tried away
        Check.due("best with an EVENT", x.best(1, 0, 4, 0, 5), 4);
        x = Check.with("store a=5;number k=0;stream f from a to out=k;");
        x.run(2);
        Check.due("best from now on", x.best(1, -5, 5, 0, 60), -5);
    }

    /** Promise 23. */
    private static void misses() {
        StoreStreams x = Check.with("store a=10;number w=4;stream f from a to out=w;");
        Check.due("miss of what is missing", x.miss(0, 0), -11);
        Check.ints(x, 0, 9, 6, -1, 3);
        // 10, 6, 2, 0
        Check.due("miss(0, 0)", x.miss(0, 0), 4);
        x.change(1, 9);
        x.run(2);
        Check.due("miss(0, 0): from begin() on", x.miss(0, 0), 4);
        x.begin();
        x.event(1, 1, 1);
        // 10, 6, 5, 4
        Check.due("miss(0, 0) with an EVENT", x.miss(0, 0), 2);
        Check.ints(x, 1);
        Check.due("miss of no items", x.miss(0, 1), 0);
        Check.ints(x, 1, -1, NO, -3);
        Check.due("miss of gaps", x.miss(0, 1), 0);
        Check.ints(x, 1, MOST, MOST, MOST);
        Check.due("miss beyond ints", x.miss(0, 1), 3L * MOST - 10 - 6 - 5);
        int[] forty = new int[40];
        Check.ints(x, 1, forty);
        Check.due("miss of forty", x.miss(0, 1), 10 + 6 + 5 + 4 + 3 + 2 + 1);
        for (int sort : new int[] {0, 1, 3}) {
            x.sheet(2, sort, 3);
            Check.due("miss of sort " + sort, x.miss(0, 2), -13);
        }
        Check.due("miss(1, 0)", x.miss(1, 0), -13);
        Check.due("miss(1, 3): -13 ahead of -11", x.miss(1, 3), -13);
        Check.due("miss(3, 3): BAD ahead of -11", x.miss(3, 3), BAD);
        Check.due("miss(1, 4): BAD ahead of -13", x.miss(1, 4), BAD);
        for (int i : new int[] {-1, 3, NO, MOST}) Check.due("miss(" + i + ", 0)", x.miss(i, 0), BAD);
        for (int i : new int[] {-1, 4, NO, MOST}) Check.due("miss(0, " + i + ")", x.miss(0, i), BAD);
    }

    /** Promise 24. */
    private static void fits() {
        StoreStreams x = Check.with("store a=10;number w=4;stream f from a to out=w;number v=0;");
        Check.ints(x, 0, 10, 7, 4, 1);
        Check.due("fit", x.fit(1, 0, 6, 0, 0), 3);
        x.change(1, 9);
        x.run(3);
        Check.due("fit from begin() on", x.fit(1, 0, 20, 0, 0), 3);
        Check.due("fit of one", x.fit(1, 9, 9, 0, 0), 9);
        Check.due("fit is the second", x.fit(1, 2, 9, 0, 0), 3);
        Check.due("fit is the last", x.fit(1, 1, 3, 0, 0), 3);
        Check.due("fit is the last of two", x.fit(1, 2, 3, 0, 0), 3);
        Check.due("fit of those below 0", x.fit(1, -5, 4, 0, 0), 3);
        Check.due("fit of the same, the least", x.fit(3, -7, 7, 0, 0), -7);
        Check.ints(x, 1, -1, -1);
        Check.due("fit to gaps", x.fit(1, 2, 5, 0, 1), 2);
        x.begin();
        x.event(1, 1, 0);
        Check.ints(x, 1, 10, 5, 5, 5);
        Check.due("fit ahead of an EVENT", x.fit(1, 0, 9, 0, 1), 5);
        Check.due("fit, other NUMBERS as the text has them", x.fit(1, 0, 9, 0, 1), 5);
        Check.due("fit(0 to 21)", x.fit(1, 0, 21, 0, 0), NO);
        Check.due("fit(1 to 0)", x.fit(1, 1, 0, 0, 0), NO);
        Check.due("fit(most to least)", x.fit(1, MOST, NO, 0, 0), NO);
        Check.due("fit of the highest", x.fit(1, MOST - 20, MOST, 0, 0), MOST - 20);
        for (int i : new int[] {0, 2, 4, -1}) Check.due("fit(" + i + ")", x.fit(i, 0, 3, 0, 0), NO);
        for (int i : new int[] {1, 2, 4, -1}) Check.due("fit(.., " + i + ", 0)", x.fit(1, 0, 3, i, 0), NO);
        for (int i : new int[] {-1, 4, NO, MOST, 3}) Check.due("fit(.., " + i + ")", x.fit(1, 0, 3, 0, i), NO);
        for (int sort : new int[] {0, 1, 3, -1}) {
            x.sheet(0, sort, 4);
            Check.due("fit to sort " + sort, x.fit(1, 0, 3, 0, 0), NO);
        }
    }

    /** Steps in thought change nothing. */
    private static void nothingChanges() {
        StoreStreams x = Check.with("store a=10;number k=2;stream f from a to out=k;delay d=2 of a;");
        x.event(4, 1, 3);
        x.run(3);
        x.change(1, 1);
        Check.ints(x, 0, 1, 2, 3);
        x.prove(0);
        x.rest(200);
        x.swing(60, 0);
        x.pull(1, 5, 0, 60);
        x.best(1, 0, 20, 0, 60);
        x.miss(0, 0);
        x.fit(1, 0, 20, 0, 0);
        Check.due("many(1)", x.many(1), 3);
        Check.due("value(0)", x.value(0), 4);
        Check.due("value(1)", x.value(1), 1);
        Check.due("value(3)", x.value(3), 8);
        Check.due("sum(3)", x.sum(3), 6);
        Check.due("judge(0)", x.judge(0), 0);
        Check.due("at(0, 2)", x.at(0, 2), 6);
        x.run(2);
        Check.due("value(0)", x.value(0), 0);
        Check.due("value(3)", x.value(3), 4);
        Check.due("sum(3)", x.sum(3), 10);
    }
}
