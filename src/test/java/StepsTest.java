/** Promises 7 to 14: value, at, flow, run, begin, change, event, sum; and section 2 of the terms. */
public final class StepsTest {
    private static final int NO = StoreStreams.NO;

    public static void main(String[] args) {
        valuesOfE();
        valuesOfTables();
        valuesOfDelays();
        valuesOfKinds();
        pastValues();
        flows();
        running();
        spilling();
        beginning();
        changing();
        events();
        sums();
        sixteenThings();
        Check.end("StepsTest");
    }

    private static void worth(String e, int want) {
        StoreStreams x = Check.with("number m=0;number n=7;helper h=" + e + ";");
        x.change(0, Integer.MIN_VALUE);
        Check.due("value of " + e, x.value(2), want);
    }

    /** Promise 7, E; m is the least int and n is 7. */
    private static void valuesOfE() {
        worth("5", 5);
        worth("n", 7);
        worth("2-3-4", -5);
        worth("2*3+4*5", 26);
        worth("2+3*4-5", 9);
        worth("20/3*2", 12);
        worth("7/2", 3);
        worth("-7/2", -3);
        worth("7/-2", -3);
        worth("5/0", 0);
        worth("0/5", 0);
        worth("m/0", 0);
        worth("m/-1", Integer.MIN_VALUE);
        worth("-m", Integer.MIN_VALUE);
        worth("m-1", Integer.MAX_VALUE);
        worth("99999*99999", 1409865409);
        worth("--5", 5);
        worth("3---4", -1);
        worth("-2*3", -6);
        worth("-(2+3)", -5);
        worth("1<2", 1);
        worth("2<2", 0);
        worth("3<2", 0);
        worth("m<0", 1);
        worth("2=2", 1);
        worth("1=2", 0);
        worth("1+2<4", 1);
        worth("1+2=4-1", 1);
        worth("1+(1<2)", 2);
        worth("(3<4)=(4<3)", 0);
        worth("least(3,4)", 3);
        worth("least(4,3)", 3);
        worth("least(3,-4)", -4);
        worth("least(m,n)", Integer.MIN_VALUE);
        worth("least(n*2,n+5)*10", 120);
        worth("1+2*(3+4*(5+6*(7+8)))", 767);
        worth("1-(2-(3-(4-5)))", 3);
        worth("1<2+3*(1<2+3*(1<2+3*(1<2+3*4)))", 1);
        worth("least(1+2*3,9-8*1<2+least(1+2*3,9-8*least(1,2)))", 1);
    }

    private static void valuesOfTables() {
        StoreStreams x = Check.with("number n=0;table t=10:5,20:15,40:0;helper h=t[n];table u=0:0,99999:99999;"
            + "helper i=u[n];table v=0:99999,99999:0;helper j=v[n];");
        int[][] due = {{-5, 5}, {0, 5}, {10, 5}, {11, 6}, {15, 10}, {19, 14}, {20, 15}, {21, 15}, {22, 14}, {25, 12},
            {39, 1}, {40, 0}, {41, 0}, {NO, 5}, {Integer.MAX_VALUE, 0}};
        for (int[] pair : due) {
            x.change(0, pair[0]);
            Check.due("t[" + pair[0] + "]", x.value(2), pair[1]);
        }
        x.change(0, 99998);
        Check.due("u[99998]", x.value(4), 99998);
        Check.due("v[99998]", x.value(6), 1);
        Check.due("value of a TABLE", x.value(1), 0);
        StoreStreams y = Check.with("table t=0:10,1:20,2:40;helper a=t[1<2];helper b=t[1=2];helper c=t[2];");
        Check.due("t[1 < 2]", y.value(1), 20);
        Check.due("t[1 = 2]", y.value(2), 10);
        Check.due("t[2]", y.value(3), 40);
        StoreStreams two = Check.with("table t=0:10,3:0;helper a=t[1];helper b=t[2];");
        Check.due("10 - 3 (10/3 cut)", two.value(1), 7);
        Check.due("10 - 6 (20/3 cut)", two.value(2), 4);
    }

    private static void valuesOfDelays() {
        StoreStreams x = Check.with("number n=7;delay d=2 of n*10;delay e=1 of d;delay f=9 of n;helper h=d+1;");
        x.change(0, 8);
        Check.due("d at 0", x.value(1), 0);
        Check.due("h at 0", x.value(4), 1);
        x.run(1);
        x.change(0, 5);
        x.change(0, 9);
        Check.due("d at 1", x.value(1), 0);
        x.run(1);
        Check.due("d at 2", x.value(1), 80);
        Check.due("e at 2", x.value(2), 0);
        x.run(1);
        Check.due("d at 3", x.value(1), 90);
        Check.due("e at 3", x.value(2), 80);
        Check.due("h at 3", x.value(4), 91);
        x.run(5);
        Check.due("f at 8", x.value(3), 0);
        x.run(1);
        Check.due("f at 9", x.value(3), 8);
        x.run(1);
        Check.due("f at 10", x.value(3), 9);
        x.begin();
        Check.due("f at 0 again", x.value(3), 0);
        x.run(9);
        Check.due("f at 9 again", x.value(3), 7);
        StoreStreams y = Check.with("store a=5;stream s from a to out=1;delay d=3 of -a;");
        y.run(5);
        Check.due("a DELAY may be below 0", y.value(2), -3);
        StoreStreams z = Check.with("delay d=3 of 5;store a=0;stream s from out to a=1;delay e=2 of a;delay f=9 of a;"
            + "delay g=9 of a*2;delay h=4 of ((((a))))=3;");
        z.run(3);
        Check.due("the first THING", z.value(0), 5);
        z.run(9);
        int[] due = {5, 12, 1, 10, 3, 6, 0};
        for (int i = 0; i < 7; i++) Check.due("DELAYS side by side: value(" + i + ")", z.value(i), due[i]);
        Check.due("h at 7", z.at(6, 7), 1);
    }

    private static void valuesOfKinds() {
        StoreStreams x = Check.with("store a=12;number b=34;stream c from out to out=3-5;stream d from a to out=b;");
        Check.due("value of a STORE", x.value(0), 12);
        Check.due("value of a NUMBER", x.value(1), 34);
        Check.due("value of a STREAM below 0", x.value(2), 0);
        Check.due("value of a STREAM that is cut", x.value(3), 34);
        for (int i : new int[] {-1, 4, 16, NO, Integer.MAX_VALUE}) Check.due("value(" + i + ")", x.value(i), NO);
        StoreStreams y = Check.with("store a=5;stream s from a to out=9;helper h=s;");
        Check.due("a NAME is the VALUE, not the FLOW", y.value(2), 9);
    }

    /** Promise 8. */
    private static void pastValues() {
        StoreStreams x = Check.with("store a=10;number n=3;stream s from a to out=n;");
        Check.due("at(0, 0)", x.at(0, 0), 10);
        Check.due("at(0, 1)", x.at(0, 1), NO);
        x.change(1, 4);
        Check.due("at(1, 0), as it is now", x.at(1, 0), 4);
        x.run(2);
        x.change(1, 1);
        x.run(1);
        int[] a = {10, 6, 2, 1};
        int[] n = {4, 4, 1, 1};
        for (int step = 0; step <= 3; step++) {
            Check.due("at(0, " + step + ")", x.at(0, step), a[step]);
            Check.due("at(1, " + step + ")", x.at(1, step), n[step]);
            Check.due("at(2, " + step + ")", x.at(2, step), n[step]);
        }
        for (int step : new int[] {-1, 4, 60, NO, Integer.MAX_VALUE}) Check.due("at", x.at(0, step), NO);
        Check.due("at(3, 0)", x.at(3, 0), NO);
        Check.due("at(-1, 0)", x.at(-1, 0), NO);
        x.begin();
        Check.due("at(0, 1) behind begin()", x.at(0, 1), NO);
        x.run(60);
        Check.due("at(0, 60)", x.at(0, 60), 0);
        Check.due("at(0, 61)", x.at(0, 61), NO);
        Check.due("at(0, 3)", x.at(0, 3), 1);
        Check.due("at(0, 59)", x.at(0, 59), 0);
    }

    private static void flow(StoreStreams x, int i, int flow, int cut) {
        Check.due("flow(" + i + ", 0)", x.flow(i, 0), flow);
        Check.due("flow(" + i + ", 1)", x.flow(i, 1), cut);
    }

    /** Promise 9. */
    private static void flows() {
        StoreStreams x = Check.with("store a=10;stream p from a to out=4;stream q from a to out=6;");
        flow(x, 1, 4, 0);
        flow(x, 2, 6, 0);
        x = Check.with("store a=10;stream p from a to out=5;stream q from a to a=5;stream r from a to out=5;"
            + "stream s from out to a=999;stream t from out to out=7;");
        flow(x, 1, 3, 2);
        flow(x, 2, 3, 2);
        flow(x, 4, 999, 0);
        flow(x, 5, 7, 0);
        Check.due("run(1)", x.run(1), 1);
        Check.due("value(0): one is left of 10, three come back", x.value(0), 10 - 9 + 3 + 999);
        x = Check.with("store a=99999;stream p from a to out=99999*20000;stream q from a to out=99999*20000;");
        flow(x, 1, 49999, 1999980000 - 49999);
        x.run(1);
        Check.due("value(0)", x.value(0), 1);
        x = Check.with("store a=0;stream p from a to out=8;stream q from a to out=0;");
        flow(x, 1, 0, 8);
        flow(x, 2, 0, 0);
        Check.due("flow(0, 0)", x.flow(0, 0), -13);
        Check.due("flow(0, 2)", x.flow(0, 2), StoreStreams.BAD);
        Check.due("flow(1, 2)", x.flow(1, 2), StoreStreams.BAD);
        Check.due("flow(1, -1)", x.flow(1, -1), StoreStreams.BAD);
        Check.due("flow(3, 0)", x.flow(3, 0), StoreStreams.BAD);
        Check.due("flow(-1, 0)", x.flow(-1, 0), StoreStreams.BAD);
        x = Check.with("stream p from out to out=3;");
        flow(x, 0, 3, 0);
        x.run(2);
        Check.due("CAME by the first THING", x.sum(2), 6);
        x = Check.with("number n=1;store a=5;stream p from a to out=n;");
        x.change(0, 9);
        flow(x, 2, 5, 4);
    }

    /** Promise 10. */
    private static void running() {
        StoreStreams x = Check.with("store a=10;store b=0;stream f from a to b=b+1;stream g from b to out=b/2;");
        // asked of a at step 3 are 7, which are cut to 3
        int[] a = {10, 9, 7, 3, 0};
        int[] b = {0, 1, 3, 6, 6};
        for (int step = 1; step <= 4; step++) {
            Check.due("run(1)", x.run(1), step);
            Check.due("a at " + step, x.value(0), a[step]);
            Check.due("b at " + step, x.value(1), b[step]);
        }
        for (int n : new int[] {0, -1, 61, NO, Integer.MAX_VALUE}) Check.due("run(" + n + ")", x.run(n), -1);
        Check.due("run(57)", x.run(57), StoreStreams.FULL);
        Check.due("many(1)", x.many(1), 4);
        Check.due("run(56)", x.run(56), 60);
        Check.due("run(1)", x.run(1), StoreStreams.FULL);
        Check.due("run(61)", x.run(61), StoreStreams.BAD);
    }

    private static void spilling() {
        StoreStreams x = Check.with("store a=99999;stream f from out to a=99999*10;");
        x.run(1);
        Check.due("value(0)", x.value(0), 999999);
        Check.due("SPILLED", x.sum(1), 99990);
        x.run(1);
        Check.due("SPILLED", x.sum(1), 99990 + 999990);
        Check.due("CAME", x.sum(2), 2 * 999990);
        x = Check.with("store a=99999;stream f from out to a=(a=99999)*90000*10;"
            + "stream g from out to a=(a=99999*10+9)*10;stream h from a to out=g;");
        x.run(1);
        Check.due("999999 without a spill", x.value(0), 999999);
        Check.due("SPILLED", x.sum(1), 0);
        x.run(1);
        Check.due("999999, 10 come and 10 go", x.value(0), 999999);
        Check.due("SPILLED", x.sum(1), 0);
        Check.due("WENT", x.sum(3), 10);
        x = Check.with("store a=10;stream f from out to a=99999*20000;stream g from out to a=99999*20000;");
        x.run(60);
        Check.due("SPILLED beyond ints", x.sum(1), 60L * 3999960000L + 10 - 999999);
        Check.due("CAME beyond ints", x.sum(2), 60L * 3999960000L);
        x.keep();
        x.begin();
        Check.due("SPILLED at begin()", x.sum(1), 0);
        x.back();
        Check.due("SPILLED at back()", x.sum(1), 60L * 3999960000L + 10 - 999999);
    }

    /** Promise 11. */
    private static void beginning() {
        StoreStreams x = Check.with("store a=10;number n=3;stream s from a to out=n;stream t from out to a=1;");
        Check.due("begin()", x.begin(), 0);
        x.event(2, 1, 5);
        x.change(1, 4);
        x.run(3);
        // 10, 7, 4, and the 5 that are asked of 4 are cut
        Check.due("value(0)", x.value(0), 1);
        Check.due("begin()", x.begin(), 3);
        Check.due("many(1)", x.many(1), 0);
        Check.due("value(0)", x.value(0), 10);
        Check.due("value(1)", x.value(1), 3);
        for (int what = 1; what <= 3; what++) Check.due("sum(" + what + ")", x.sum(what), 0);
        Check.due("many(2): EVENTS stay", x.many(2), 1);
        x.run(3);
        Check.due("value(1)", x.value(1), 5);
        Check.due("value(0)", x.value(0), 10 - 2 - 2 - 4);
    }

    /** Promise 12. */
    private static void changing() {
        StoreStreams x = Check.with("store a=10;number n=3;stream s from a to out=n;helper h=n*2;");
        Check.due("change(1, 6)", x.change(1, 6), 3);
        Check.due("value(1)", x.value(1), 6);
        Check.due("value(2)", x.value(2), 6);
        Check.due("value(3)", x.value(3), 12);
        Check.due("flow(2, 0)", x.flow(2, 0), 6);
        Check.due("many(1)", x.many(1), 0);
        Check.due("change(1, least)", x.change(1, NO), 6);
        Check.due("change(1, 1): it was the least int", x.change(1, 1), NO);
        for (int i : new int[] {0, 2, 3, 4, -1, NO, Integer.MAX_VALUE}) {
            Check.due("change(" + i + ", 5)", x.change(i, 5), NO);
        }
        Check.due("value(0)", x.value(0), 10);
        x.run(2);
        Check.due("value(0)", x.value(0), 8);
    }

    /** Promise 13. */
    private static void events() {
        StoreStreams x = Check.with("store a=0;number n=1;stream s from out to a=n;number m=0;");
        x.run(1);
        for (int step : new int[] {1, 0, -1, 61, NO, Integer.MAX_VALUE}) {
            Check.due("event(" + step + ", 1, 2)", x.event(step, 1, 2), StoreStreams.BAD);
        }
        Check.due("event(3, 4, 2)", x.event(3, 4, 2), StoreStreams.BAD);
        Check.due("event(3, -1, 2)", x.event(3, -1, 2), StoreStreams.BAD);
        Check.due("event(1, 0, 2): BAD ahead of -13", x.event(1, 0, 2), StoreStreams.BAD);
        Check.due("event(3, 0, 2)", x.event(3, 0, 2), -13);
        Check.due("event(3, 2, 2)", x.event(3, 2, 2), -13);
        Check.due("many(2)", x.many(2), 0);
        Check.due("event(3, 1, 10)", x.event(3, 1, 10), 0);
        Check.due("event(3, 1, 100)", x.event(3, 1, 100), 1);
        Check.due("event(2, 3, 7)", x.event(2, 3, 7), 2);
        Check.due("event(60, 3, 8)", x.event(60, 3, 8), 3);
        Check.due("event(4, 1, -5)", x.event(4, 1, -5), 4);
        Check.due("event(2, 1, 0)", x.event(2, 1, 0), 5);
        Check.due("event(2, 1, 0)", x.event(2, 1, 0), StoreStreams.FULL);
        Check.due("event(2, 0, 0): -13 ahead of FULL", x.event(2, 0, 0), -13);
        Check.due("event(1, 1, 0): BAD ahead of FULL", x.event(1, 1, 0), StoreStreams.BAD);
        Check.due("many(2)", x.many(2), 6);
        x.run(1);
        Check.due("m at 2", x.value(3), 7);
        Check.due("n at 2", x.value(1), 0);
        Check.due("a at 2: the step goes ahead of its EVENTS", x.value(0), 2);
        x.change(1, 4);
        x.run(1);
        Check.due("n at 3, the later EVENT", x.value(1), 100);
        Check.due("a at 3", x.value(0), 6);
        x.run(2);
        Check.due("a at 5", x.value(0), 106);
        Check.due("n at 5", x.value(1), -5);
        x.run(54);
        Check.due("m at 59", x.value(3), 7);
        x.run(1);
        Check.due("m at 60", x.value(3), 8);
    }

    /** As many THINGS as there may be, with a STORE, a STREAM and a DELAY for the last one. */
    private static void sixteenThings() {
        StringBuilder stores = new StringBuilder();
        for (char c = 'a'; c < 'a' + 14; c++) stores.append("store ").append(c).append("=1;");
        String[] ends = {"number y=5;store z=2;", "number y=5;stream z from n to m=y;", "number y=5;delay z=2 of a+y;"};
        int[] values = {2, 5, 6};
        int[] rest = {0, 1, 0};
        int[] reached = {0, 1 << 12 | 1 << 13, 0};
        for (int k = 0; k < 3; k++) {
            StoreStreams x = Check.with(stores + ends[k]);
            Check.due("rest(9)", x.rest(9), rest[k]);
            Check.due("rings()", x.rings(), 0);
            Check.due("reached(15)", x.reached(15), reached[k]);
            Check.due("swing(9, 1)", x.swing(9, 1), 1);
            Check.due("run(2)", x.run(2), 2);
            Check.due("value(15)", x.value(15), values[k]);
            Check.due("at(15, 2)", x.at(15, 2), values[k]);
            Check.due("sum(0)", x.sum(0), k == 0 ? 16 : 14);
            Check.due("pull(14, 1, 15, 2)", x.pull(14, 1, 15, 2), k == 0 ? 0 : 1);
            Check.due("value(12)", x.value(12), k == 1 ? 2 : 1);
            Check.due("prove(15)", x.prove(15), 3);
            Check.due("judge(15)", x.judge(15), 0);
        }
    }

    /** Promise 14. */
    private static void sums() {
        StoreStreams x = Check.with("store a=10;store b=20;number n=99;stream s from a to b=3;stream t from b to out=4;"
            + "stream u from out to a=5;stream v from out to out=6;");
        Check.due("sum(0)", x.sum(0), 30);
        for (int what = 1; what <= 3; what++) Check.due("sum(" + what + ")", x.sum(what), 0);
        x.run(2);
        Check.due("sum(0)", x.sum(0), 32);
        Check.due("sum(1)", x.sum(1), 0);
        Check.due("sum(2)", x.sum(2), 22);
        Check.due("sum(3)", x.sum(3), 20);
        for (int what : new int[] {-1, 4, NO, Integer.MAX_VALUE}) Check.due("sum", x.sum(what), -1);
    }
}
