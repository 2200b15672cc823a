/** The edges that section 3 of the terms names of steps in thought, and promises 19 to 24: rest to fit. */
final class EdgesOfThought extends Edges {
    private EdgesOfThought() {
    }

    static void all() {
        stepsInThought();
        whatRestIs();
        whatSwingIs();
        whatPullIs();
        whatBestIs();
        whatMissIs();
        whatFitIs();
        rest();
        restRefused();
        swing();
        swingRefused();
        pull();
        pullNo();
        best();
        bestNo();
        miss();
        missRefused();
        fit();
        fitNo();
    }

    private static void stepsInThought() {
        says("3", "Steps in thought go on from the world as it is, as far as told, beyond step 60, too (EVENTS done); nothing "
            + "changes by them.");
        refused(WORLD, "rest(200)", x -> x.rest(200), 1);
        refused(WORLD, "swing(60, 0)", x -> x.swing(60, 0), 2);
        refused(WORLD, "pull(1, 1, 0, 60)", x -> x.pull(1, 1, 0, 60), 0);
        refused(WORLD, "best(1, 0, 20, 0, 60)", x -> x.best(1, 0, 20, 0, 60), 0);
        refused(WORLD, "miss(0, 0)", x -> x.miss(0, 0), 5);
        refused(WORLD, "fit(1, 0, 20, 0, 0)", x -> x.fit(1, 0, 20, 0, 0), 6);
        StoreStreams x = with("store a=0;stream f from out to a=1;number n=1;stream g from out to a=n;delay d=9 of a;");
        x.change(2, 0);
        x.event(60, 2, 1);
        x.run(59);
        due("best: the one STEP to step 60 counts, then the EVENT is done", x.best(2, 0, 3, 0, 60), 3);
        due("pull: the EVENT of step 60 takes it away", x.pull(2, 5, 0, 60), 5);
        x.run(1);
        due("pull beyond step 60", x.pull(2, 5, 0, 60), 300);
        due("pull on a DELAY beyond step 60", x.pull(2, 5, 4, 60), 5 * 51);
        due("swing beyond step 60", x.swing(60, 0), NONE);
        StoreStreams y = with("store a=99999;stream f from a to out=1000;");
        y.run(60);
        due("rest beyond step 60", y.rest(200), 40);
        due("many(1)", y.many(1), 60);
    }

    private static void whatRestIs() {
        says("3", "REST: the least n (0 on) so that STEP n + 1 from now would change no STORE.");
        due("no STORE at all", new StoreStreams().rest(0), 0);
        due("nothing flows", with("store a=5;").rest(0), 0);
        due("what goes comes", with("store a=5;stream f from a to out=2;stream g from out to a=2;").rest(0), 0);
        due("to itself", with("store a=5;stream f from a to a=2;").rest(0), 0);
        due("one step", with("store a=5;stream f from a to out=9;").rest(9), 1);
        StoreStreams x = with("store a=9;number n=0;stream f from a to out=n;");
        x.event(3, 1, 2);
        due("the least: ahead of the EVENT", x.rest(9), 0);
        x.run(2);
        due("the STEP to the EVENT's step changes none", x.rest(9), 0);
        x.run(1);
        due("from the EVENT on", x.rest(9), 5);
        StoreStreams full = with("store a=8;stream f from out to a=99999*10;");
        due("a STORE that is full rests", full.rest(9), 2);
        StoreStreams later = with("store a=9;delay d=3 of 1;stream f from a to out=d;");
        due("a DELAY that isn't there yet", later.rest(9), 0);
        later.run(3);
        due("and when it is", later.rest(20), 9);
    }

    private static void swing(StoreStreams x, int n, int found, int between) {
        due("swing(" + n + ", 0)", x.swing(n, 0), found);
        due("swing(" + n + ", 1)", x.swing(n, 1), between);
    }

    private static void whatSwingIs() {
        says("3", "SWING: the first n at which all STORES hold what they held at some lesser n (0: now), and how many steps lie "
            + "between these two (of several the latest of these).");
        swing(with("store a=5;store b=3;stream f from a to b=a;stream g from b to a=b;"), 60, 2, 2);
        swing(with("store a=5;"), 60, 1, 1);
        swing(new StoreStreams(), 60, 1, 1);
        swing(with("store a=10;stream f from a to out=3;"), 60, 5, 1);
        StoreStreams all = with("store a=5;store b=3;store c=4;stream f from a to b=a;stream g from b to a=b;"
            + "stream h from c to out=2;");
        // a and b are as at 0 at 2 already; c, with 4, 2, 0, 0, 0, is it at 4 only
        swing(all, 60, 4, 2);
        StoreStreams event = with("store a=9;number n=1;stream f from a to out=n;stream g from out to a=-n;");
        event.event(3, 1, -2);
        // 9, 8, 7, 6, 8: as at 1, not as at 0
        swing(event, 60, 4, 3);
        event.run(1);
        swing(event, 60, 3, 3);
    }

    private static void whatPullIs() {
        says("3", "PULL: by how much the VALUE of a THING n steps on would be more, if a NUMBER were more by a told number now.");
        StoreStreams x = with("store a=10;number k=2;stream f from out to a=k;helper h=k*k;table t=0:0,1:1;delay d=3 of k;");
        x.change(1, 4);
        due("on the STORE", x.pull(1, 3, 0, 5), 15);
        due("on the STORE at once", x.pull(1, 3, 0, 0), 0);
        due("on itself at once", x.pull(1, 3, 1, 0), 3);
        due("on the STREAM at once", x.pull(1, 3, 2, 0), 3);
        due("on the HELPER at once", x.pull(1, 3, 3, 0), 33);
        due("on the TABLE", x.pull(1, 3, 4, 5), 0);
        due("on the DELAY, a step too early", x.pull(1, 3, 5, 2), 0);
        due("on the DELAY", x.pull(1, 3, 5, 3), 3);
        due("by nought", x.pull(1, 0, 0, 9), 0);
        due("by less", x.pull(1, -1, 0, 5), -5);
        due("by more than the STREAM can lose", x.pull(1, -9, 0, 5), -20);
    }

    private static void whatBestIs() {
        says("3", "BEST: of told values of a NUMBER from low to high that with which a STORE would hold the most n steps on, of "
            + "several the least.");
        StoreStreams x = with("store a=0;number k=0;stream f from out to a=k*(10-k);");
        due("in the middle", x.best(1, 0, 10, 0, 1), 5);
        due("low itself", x.best(1, 5, 10, 0, 1), 5);
        due("high itself", x.best(1, 0, 5, 0, 1), 5);
        due("one value", x.best(1, 3, 3, 0, 1), 3);
        due("all the same", x.best(1, 10, 20, 0, 1), 10);
        due("all the same, below 0", x.best(1, -20, 0, 0, 1), -20);
        StoreStreams y = with("store a=0;number k=0;stream f from out to a=(k=4)+(k=6);");
        due("of several the least", y.best(1, 0, 9, 0, 3), 4);
        due("of several the least from 5 on", y.best(1, 5, 9, 0, 3), 6);
        due("no step: all the same", y.best(1, 2, 9, 0, 0), 2);
        StoreStreams drains = with("store a=99;number k=0;stream f from a to out=10-k;");
        due("what it holds n steps on, not sooner", drains.best(1, 0, 5, 0, 5), 5);
        StoreStreams full = with("store a=0;number k=0;stream f from out to a=k*99999*10;");
        due("what SPILLS doesn't count", full.best(1, 0, 9, 0, 4), 1);
    }

    private static void whatMissIs() {
        says("3", "MISS of a STORE and a row of data: from begin() on (EVENTS done, NUMBERS as the text has them, but a told "
            + "one) the sum of how far item k is from what the STORE holds at step k; an item below 0 is a gap and counts nothing.");
        StoreStreams x = with("store a=10;number w=4;stream f from a to out=w;store b=3;");
        // a: 10, 6, 2, 0
        Check.ints(x, 0, 10, 6, 2, 0);
        due("all right", x.miss(0, 0), 0);
        Check.ints(x, 0, 9, 7, 0, 5);
        due("above and below", x.miss(0, 0), 1 + 1 + 2 + 5);
        Check.ints(x, 0, -1, 7, NO, 0);
        due("gaps", x.miss(0, 0), 1);
        Check.ints(x, 0, 0);
        due("an item of 0 is no gap", x.miss(0, 0), 10);
        x.change(1, 9);
        x.run(2);
        Check.ints(x, 0, 10, 6, 2, 0);
        due("from begin() on, NUMBERS as the text has them", x.miss(0, 0), 0);
        due("another STORE", x.miss(3, 0), 7 + 3 + 1 + 3);
        x.event(3, 1, 0);
        x.begin();
        x.event(1, 1, 1);
        // a: 10, 6, 5, 4, 4
        Check.ints(x, 0, 10, 6, 5, 4, 4);
        due("EVENTS done", x.miss(0, 0), 0);
        Check.ints(x, 1);
        due("no items", x.miss(0, 1), 0);
        Check.ints(x, 1, new int[40]);
        due("forty items", x.miss(0, 1), 10 + 6 + 5 + 37 * 4);
        int[] most = new int[40];
        java.util.Arrays.fill(most, MOST);
        Check.ints(x, 1, most);
        due("beyond ints", x.miss(0, 1), 40L * MOST - (10 + 6 + 5 + 37 * 4));
    }

    private static void whatFitIs() {
        says("3", "FIT: of values from low to high that with the least MISS, of several the least.");
        StoreStreams x = with("store a=10;number w=4;stream f from a to out=w;number v=2;stream g from out to a=v/2;");
        Check.ints(x, 0, 10, 8, 6, 4);
        due("in the middle", x.fit(1, 0, 10, 0, 0), 3);
        due("low itself", x.fit(1, 3, 10, 0, 0), 3);
        due("high itself", x.fit(1, 0, 3, 0, 0), 3);
        due("one value", x.fit(1, 9, 9, 0, 0), 9);
        due("from below 0 on", x.fit(1, -10, 3, 0, 0), 3);
        x.change(3, 8);
        x.run(5);
        due("the other NUMBERS as the text has them", x.fit(1, 0, 10, 0, 0), 3);
        Check.ints(x, 1, 10, 7, 4, 1);
        due("of several the least: v 2 and 3 are the same", x.fit(3, 0, 9, 0, 1), 2);
        Check.ints(x, 1, -1, -1);
        due("all the same", x.fit(1, -5, 15, 0, 1), -5);
        Check.ints(x, 1);
        due("no items", x.fit(1, 2, 5, 0, 1), 2);
        x.begin();
        x.event(1, 1, 0);
        Check.ints(x, 1, 10, 6, 7, 8);
        due("the told one till its EVENT", x.fit(1, 0, 20, 0, 1), 5);
    }

    private static void rest() {
        says("Promise 19", "REST within n (0 to 200) steps.");
        StoreStreams x = with("store a=10;stream f from a to out=3;");
        due("rest(4)", x.rest(4), 4);
        due("rest(5)", x.rest(5), 4);
        due("rest(200)", x.rest(200), 4);
        StoreStreams far = with("store a=50000;stream f from a to out=250;");
        due("rest(200), at the last", far.rest(200), 200);
        due("rest(0) at once", with("store a=1;").rest(0), 0);
        due("rest(9) of 16 THINGS", with(numbers(14) + "store y=9;stream z from y to out=4;").rest(9), 3);
    }

    private static void restRefused() {
        says("Promise 19", "BAD; NONE: more are needed.");
        for (int n : new int[] {-1, 201, 202, NO, MOST}) refused(WORLD, "rest(" + n + ")", x -> x.rest(n), BAD);
        refused(WORLD, "rest(0)", x -> x.rest(0), NONE);
        due("rest(1)", WORLD.get().rest(1), 1);
        StoreStreams far = with("store a=50001;stream f from a to out=250;");
        due("rest(200): 201 are needed", far.rest(200), NONE);
        due("rest(199)", with("store a=50000;stream f from a to out=250;").rest(199), NONE);
    }

    private static void swing() {
        says("Promise 20", "SWING within n (0 to 60) steps: what = 0 the n at which it is found, 1 how many steps lie between.");
        StoreStreams x = with("store a=5;store b=3;stream f from a to b=a;stream g from b to a=b;");
        swing(x, 2, 2, 2);
        swing(x, 3, 2, 2);
        swing(x, 60, 2, 2);
        StoreStreams far = with("store a=59;stream f from a to out=1;");
        // 0 at 59, and still 0 at 60
        swing(far, 60, 60, 1);
        swing(far, 59, NONE, NONE);
        swing(with(numbers(14) + "store y=9;stream z from y to out=4;"), 60, 4, 1);
        swing(with(numbers(15) + "store z=9;"), 60, 1, 1);
    }

    private static void swingRefused() {
        says("Promise 20", "BAD; NONE.");
        for (int n : new int[] {-1, 61, 62, 200, NO, MOST}) {
            refused(WORLD, "swing(" + n + ", 0)", x -> x.swing(n, 0), BAD);
            due("swing(" + n + ", 1)", WORLD.get().swing(n, 1), BAD);
        }
        for (int what : new int[] {-1, 2, NO, MOST}) refused(WORLD, "swing(9, " + what + ")", x -> x.swing(9, what), BAD);
        refused(WORLD, "swing(1, 0)", x -> x.swing(1, 0), NONE);
        refused(WORLD, "swing(0, 1)", x -> x.swing(0, 1), NONE);
        due("swing(0, 0): there is no lesser n", with("store a=5;").swing(0, 0), NONE);
        due("swing(60, 0)", with("store a=60;stream f from a to out=1;").swing(60, 0), NONE);
    }

    private static void pull() {
        says("Promise 21", "PULL of a NUMBER on a THING behind n (0 to 60) steps: the difference wraps.");
        due("of THING 0 on THING 15", with(numbers(15) + "helper z=a*3;").pull(0, 7, 15, 0), 21);
        StoreStreams x = with("store a=0;number k=0;stream f from out to a=k;helper h=k*2;helper i=-k;");
        due("n = 0", x.pull(1, 7, 1, 0), 7);
        due("n = 60", x.pull(1, 7, 0, 60), 420);
        due("by MOST", x.pull(1, MOST, 1, 9), MOST);
        due("by NO", x.pull(1, NO, 1, 9), NO);
        due("twice MOST", x.pull(1, MOST, 3, 0), -2);
        x.change(1, MOST);
        due("the NUMBER wraps, and so does the difference", x.pull(1, 1, 1, 0), 1);
        due("from -MOST to NO", x.pull(1, 1, 4, 0), -1);
        x.change(1, NO);
        due("from NO to MOST", x.pull(1, -1, 1, 0), -1);
        due("a STREAM from 0 to MOST", x.pull(1, -1, 2, 0), MOST);
    }

    private static void pullNo() {
        says("Promise 21", "NO: no such THINGS, it is no NUMBER, n.");
        for (int i : new int[] {0, 2, 3, 4, 5, 6, -1, 7, 16, NO, MOST}) {
            refused(WORLD, "pull(" + i + ", 1, 0, 1)", x -> x.pull(i, 1, 0, 1), NO);
        }
        for (int i : new int[] {-1, 7, 16, NO, MOST}) {
            refused(WORLD, "pull(1, 1, " + i + ", 1)", x -> x.pull(1, 1, i, 1), NO);
        }
        for (int n : new int[] {-1, 61, 200, NO, MOST}) {
            refused(WORLD, "pull(1, 1, 0, " + n + ")", x -> x.pull(1, 1, 0, n), NO);
        }
    }

    private static void best() {
        says("Promise 22", "BEST.");
        StoreStreams x = with("store a=0;number k=0;stream f from out to a=k;");
        due("low to low and 20, n 60", x.best(1, 0, 20, 0, 60), 20);
        due("n 0", x.best(1, 0, 20, 0, 0), 0);
        due("low is high", x.best(1, 7, 7, 0, 60), 7);
        due("the highest ints", x.best(1, MOST - 20, MOST, 0, 0), MOST - 20);
        due("the highest ints: each fills the STORE", x.best(1, MOST - 20, MOST, 0, 60), MOST - 20);
        due("MOST alone", x.best(1, MOST, MOST, 0, 1), MOST);
        due("the lowest ints", x.best(1, NO + 1, NO + 21, 0, 1), NO + 1);
        due("from below 0 on", x.best(1, -10, 10, 0, 1), 10);
        due("a NUMBER that is THING 0", with("number k=0;store a=0;stream f from out to a=k;").best(0, 0, 9, 1, 1), 9);
        due("value(1): it stays", x.value(1), 0);
    }

    private static void bestNo() {
        says("Promise 22", "NO: no such THINGS, it is no NUMBER, the other one is no STORE, high isn't low to low and 20, n isn't "
            + "0 to 60.");
        for (int i : new int[] {0, 2, 3, 4, 5, 6, -1, 7, 16, NO, MOST}) {
            refused(WORLD, "best(" + i + ", 0, 1, 0, 1)", x -> x.best(i, 0, 1, 0, 1), NO);
        }
        for (int i : new int[] {1, 2, 3, 4, 5, 6, -1, 7, 16, NO, MOST}) {
            refused(WORLD, "best(1, 0, 1, " + i + ", 1)", x -> x.best(1, 0, 1, i, 1), NO);
        }
        int[][] spans = {{0, -1}, {0, 21}, {5, 4}, {5, 26}, {MOST, NO}, {MOST, NO + 5}, {NO, MOST}, {0, NO}, {0, MOST},
            {-1, MOST}, {MOST, MOST - 1}, {NO, NO + 21}};
        for (int[] span : spans) {
            refused(WORLD, "best(1, " + span[0] + ", " + span[1] + ", 0, 1)", x -> x.best(1, span[0], span[1], 0, 1), NO);
        }
        for (int n : new int[] {-1, 61, NO, MOST}) {
            refused(WORLD, "best(1, 0, 1, 0, " + n + ")", x -> x.best(1, 0, 1, 0, n), NO);
        }
    }

    private static void miss() {
        says("Promise 23", "MISS of a STORE and a SHEET taken for ints.");
        StoreStreams x = WORLD.get();
        // a from begin() on is 10, 7, 4; the row is 9, a gap, 0
        due("miss(0, 0)", x.miss(0, 0), 1 + 4);
        for (int sheet = 0; sheet <= 3; sheet++) {
            Check.ints(x, sheet, sheet);
            due("miss(0, " + sheet + ")", x.miss(0, sheet), 10 - sheet);
        }
        Check.ints(x, 3);
        due("miss of an empty SHEET", x.miss(0, 3), 0);
    }

    private static void missRefused() {
        says("Promise 23", "BAD: no such THING, SHEET; -13: it is no STORE, or no row of ints; -11.");
        for (int i : new int[] {-1, 7, 16, NO, MOST}) refused(WORLD, "miss(" + i + ", 0)", x -> x.miss(i, 0), BAD);
        for (int sheet : new int[] {-1, 4, NO, MOST}) {
            refused(WORLD, "miss(0, " + sheet + ")", x -> x.miss(0, sheet), BAD);
            due("miss(1, " + sheet + "): BAD is named first", WORLD.get().miss(1, sheet), BAD);
        }
        for (int i = 1; i <= 6; i++) {
            int thing = i;
            refused(WORLD, "miss(" + i + ", 0)", x -> x.miss(thing, 0), -13);
            due("miss(" + i + ", 2): -13 is named ahead of -11", WORLD.get().miss(i, 2), -13);
        }
        refused(WORLD, "miss(0, 1): bytes", x -> x.miss(0, 1), -13);
        refused(WORLD, "miss(0, 3): longs", x -> x.miss(0, 3), -13);
        StoreStreams shorts = WORLD.get();
        shorts.sheet(0, 1, 0);
        due("miss(0, 0): no shorts", shorts.miss(0, 0), -13);
        refused(WORLD, "miss(0, 2): missing", x -> x.miss(0, 2), -11);
    }

    private static void fit() {
        says("Promise 24", "FIT of a NUMBER to a STORE and a SHEET taken for ints.");
        StoreStreams x = with("store a=10;number w=4;stream f from a to out=w;");
        for (int sheet = 0; sheet <= 3; sheet++) {
            Check.ints(x, sheet, 10, 10 - sheet);
            due("fit(1, 0, 20, 0, " + sheet + ")", x.fit(1, 0, 20, 0, sheet), sheet);
        }
        due("the highest ints: all is gone at once", x.fit(1, MOST - 20, MOST, 0, 0), MOST - 20);
        due("the lowest ints", x.fit(1, NO + 1, NO + 21, 0, 1), NO + 1);
        due("low is high", x.fit(1, 7, 7, 0, 0), 7);
        StoreStreams first = with("number w=4;store a=10;stream f from a to out=w;");
        Check.ints(first, 0, 10, 8);
        due("a NUMBER that is THING 0", first.fit(0, 0, 20, 1, 0), 2);
        due("value(1): it stays", x.value(1), 4);
    }

    private static void fitNo() {
        says("Promise 24", "NO: as best(), no such SHEET, it is missing, or no row of ints.");
        for (int i : new int[] {0, 2, 3, 4, 5, 6, -1, 7, 16, NO, MOST}) {
            refused(WORLD, "fit(" + i + ", 0, 1, 0, 0)", x -> x.fit(i, 0, 1, 0, 0), NO);
        }
        for (int i : new int[] {1, 2, 3, 4, 5, 6, -1, 7, 16, NO, MOST}) {
            refused(WORLD, "fit(1, 0, 1, " + i + ", 0)", x -> x.fit(1, 0, 1, i, 0), NO);
        }
        int[][] spans = {{0, -1}, {0, 21}, {MOST, NO}, {MOST, NO + 5}, {NO, MOST}, {-1, MOST}, {NO, NO + 21}};
        for (int[] span : spans) {
            refused(WORLD, "fit(1, " + span[0] + ", " + span[1] + ", 0, 0)", x -> x.fit(1, span[0], span[1], 0, 0), NO);
        }
        for (int sheet : new int[] {-1, 4, NO, MOST, 2, 1, 3}) {
            refused(WORLD, "fit(1, 0, 1, 0, " + sheet + ")", x -> x.fit(1, 0, 1, 0, sheet), NO);
        }
        StoreStreams shorts = WORLD.get();
        shorts.sheet(0, 1, 3);
        due("fit: no shorts", shorts.fit(1, 0, 1, 0, 0), NO);
    }
}
