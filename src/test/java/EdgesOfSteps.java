/** The edges that section 2 of the terms names: VALUES, TABLES, DELAYS, FLOWS, a STEP, EVENTS. */
final class EdgesOfSteps extends Edges {
    private EdgesOfSteps() {
    }

    static void all() {
        thingsByNumbers();
        valuesOfStores();
        valuesOfNumbers();
        valuesOfHelpers();
        valuesOfStreams();
        valuesOfTables();
        valuesOfDelays();
        intsThatWrap();
        partedByNought();
        comparisons();
        lesserOne();
        namesAreValues();
        tableUpToTheFirst();
        tableFromTheLast();
        tableBetween();
        flowsUncut();
        flowsCut();
        spilling();
        cameAndWent();
        eventsOfTheStep();
        sixEvents();
        sixtySteps();
        beginning();
    }

    private static void thingsByNumbers() {
        says("2", "VALUES at a step (from 0 on), THINGS by numbers (as they come in the text):");
        StoreStreams x = with("number a=10;number b=11;number c=12;store d=13;number e=14;number f=15;number g=16;number h=17;"
            + "number i=18;number j=19;number k=20;number l=21;number m=22;number n=23;number o=24;store p=25;");
        for (int i = 0; i < 16; i++) {
            due("value(" + i + ")", x.value(i), 10 + i);
            due("at(" + i + ", 0)", x.at(i, 0), 10 + i);
            due("at(" + i + ", -1)", x.at(i, -1), NO);
        }
    }

    private static void valuesOfStores() {
        says("2", "of a STORE what it holds (its N at step 0);");
        StoreStreams x = with("store a=0;store b=99999;stream f from b to a=1;");
        due("a", x.value(0), 0);
        due("b", x.value(1), 99999);
        x.run(1);
        due("a at 1", x.value(0), 1);
        due("b at 1", x.value(1), 99998);
        values(x, 1, 99999, 99998);
    }

    private static void valuesOfNumbers() {
        says("2", "of a NUMBER what it is (its N at first);");
        StoreStreams x = with("number a=0;number b=99999;");
        due("a", x.value(0), 0);
        due("b", x.value(1), 99999);
        x.change(0, NO);
        x.change(1, MOST);
        x.run(3);
        due("a", x.value(0), NO);
        due("b", x.value(1), MOST);
    }

    private static void valuesOfHelpers() {
        says("2", "of a HELPER its E;");
        worth("-1", -1);
        worth("0", 0);
        worth("m", NO);
        worth("p", MOST);
        StoreStreams x = with("store a=5;stream f from a to out=2;helper h=a*10;");
        x.run(2);
        values(x, 2, 50, 30, 10);
    }

    private static void valuesOfStreams() {
        says("2", "of a STREAM its E, 0 at least;");
        StoreStreams x = with("number n=0;stream f from out to out=n;");
        int[][] due = {{-1, 0}, {0, 0}, {1, 1}, {NO, 0}, {MOST, MOST}};
        for (int[] pair : due) {
            x.change(0, pair[0]);
            due("the STREAM of " + pair[0], x.value(1), pair[1]);
            due("its FLOW", x.flow(1, 0), pair[1]);
        }
        due("a STREAM of an empty STORE keeps its VALUE", with("store a=0;stream f from a to out=7;").value(1), 7);
    }

    private static void valuesOfTables() {
        says("2", "of a TABLE 0;");
        StoreStreams x = with("table t=0:5,1:6;helper h=t[1];");
        due("value(0)", x.value(0), 0);
        x.run(2);
        values(x, 0, 0, 0, 0);
        for (int k = 0; k < 3; k++) Check.read(x, "number n=9;");
        Check.read(x, "table t=0:5,1:6;");
        due("value(0) where another THING was", x.value(0), 0);
    }

    private static void valuesOfDelays() {
        says("2", "of a DELAY what its E was N steps ahead, 0 ahead of step N.");
        StoreStreams x = with("store a=50;stream f from out to a=1;delay d=1 of a;delay e=2 of a;delay g=9 of a;delay h=3 of d;"
            + "delay i=1 of -a;");
        x.run(12);
        values(x, 2, 0, 50, 51, 52, 53, 54, 55, 56, 57, 58, 59, 60, 61);
        values(x, 3, 0, 0, 50, 51, 52, 53, 54, 55, 56, 57, 58, 59, 60);
        values(x, 4, 0, 0, 0, 0, 0, 0, 0, 0, 0, 50, 51, 52, 53);
        values(x, 5, 0, 0, 0, 0, 50, 51, 52, 53, 54, 55, 56, 57, 58);
        values(x, 6, 0, -50, -51, -52);
        StoreStreams first = with("delay d=2 of 7;delay e=9 of 5;delay f=9 of 6;");
        first.run(10);
        values(first, 0, 0, 0, 7, 7);
        due("e at 8", first.at(1, 8), 0);
        due("e at 9", first.at(1, 9), 5);
        due("f at 10", first.at(2, 10), 6);
        for (int n = 1; n <= 9; n++) {
            StoreStreams y = with("number k=7;delay d=" + n + " of k;");
            y.run(n - 1 > 0 ? n - 1 : 1);
            if (n > 1) due("one step ahead of " + n, y.value(1), 0);
            if (n > 1) y.run(1);
            due("at step " + n, y.value(1), 7);
            y.change(0, 8);
            due("a change now is not yet seen", y.value(1), 7);
            y.run(n);
            due(n + " steps behind the change", y.value(1), 8);
        }
    }

    private static void intsThatWrap() {
        says("2", "E is worked out in ints that wrap;");
        worth("p+1", NO);
        worth("m-1", MOST);
        worth("-m", NO);
        worth("m/-1", NO);
        worth("p*2", -2);
        worth("p*p", 1);
        worth("m*m", 0);
        worth("m*-1", NO);
        worth("99999*99999", 1409865409);
        worth("p+p+2", 0);
        worth("0-m", NO);
        worth("p<p+1", 0);
        StoreStreams x = with("number p=0;stream s from out to out=p+1;");
        x.change(0, MOST);
        due("a STREAM that wraps below 0", x.value(1), 0);
    }

    private static void partedByNought() {
        says("2", "/ by 0 is 0;");
        worth("5/0", 0);
        worth("-5/z", 0);
        worth("0/0", 0);
        worth("m/z", 0);
        worth("p/(n-7)", 0);
        worth("1+5/0", 1);
        worth("5/0*3+2", 2);
        worth("5/(1/2)", 0);
    }

    private static void comparisons() {
        says("2", "< and = give 1 or 0;");
        worth("1<2", 1);
        worth("2<2", 0);
        worth("3<2", 0);
        worth("2=2", 1);
        worth("2=3", 0);
        worth("3=2", 0);
        worth("m<p", 1);
        worth("p<m", 0);
        worth("m=m", 1);
        worth("p=m", 0);
        worth("-1<0", 1);
        worth("(1<2)+(2=2)", 2);
    }

    private static void lesserOne() {
        says("2", "least the lesser one;");
        worth("least(1,2)", 1);
        worth("least(2,1)", 1);
        worth("least(2,2)", 2);
        worth("least(m,p)", NO);
        worth("least(p,m)", NO);
        worth("least(-1,0)", -1);
        worth("least(0,-1)", -1);
        worth("least(1<2,7)", 1);
    }

    private static void namesAreValues() {
        says("2", "NAME the VALUE at this step.");
        StoreStreams x = with("store a=5;stream f from a to out=9;stream g from out to out=0-9;delay d=1 of a;number n=2;"
            + "helper h=f;helper i=g;helper j=d;helper k=a;helper l=n;");
        int[] first = {9, 0, 0, 5, 2};
        for (int k = 0; k < 5; k++) due("value(" + (5 + k) + ")", x.value(5 + k), first[k]);
        x.change(4, -3);
        due("l behind a change", x.value(9), -3);
        x.run(1);
        int[] then = {9, 0, 5, 0, -3};
        for (int k = 0; k < 5; k++) due("value(" + (5 + k) + ") at 1", x.value(5 + k), then[k]);
    }

    private static void table(String corners, int[]... due) {
        StoreStreams x = with("number n=0;table t=" + corners + ";helper h=t[n];");
        for (int[] pair : due) {
            x.change(0, pair[0]);
            due(corners + " at " + pair[0], x.value(2), pair[1]);
        }
    }

    private static void tableUpToTheFirst() {
        says("2", "A TABLE [ x ]: the second N of its first corner for x up to the first N of that;");
        table("10:5,20:15", new int[] {9, 5}, new int[] {10, 5}, new int[] {0, 5}, new int[] {-1, 5}, new int[] {NO, 5});
        table("0:7,1:8", new int[] {0, 7}, new int[] {-1, 7}, new int[] {NO, 7});
        table("99998:99999,99999:0", new int[] {99997, 99999}, new int[] {99998, 99999});
    }

    private static void tableFromTheLast() {
        says("2", "of its last one likewise from there on;");
        table("10:5,20:15", new int[] {20, 15}, new int[] {21, 15}, new int[] {MOST, 15});
        table("0:0,1:1,2:2,3:3,4:4,5:9", new int[] {5, 9}, new int[] {6, 9}, new int[] {99999, 9}, new int[] {MOST, 9});
        table("0:5,99999:0", new int[] {99999, 0}, new int[] {100000, 0});
    }

    private static void tableBetween() {
        says("2", "between two corners the straight line: that of the lesser corner, and the rise times how far x is from it by "
            + "their distance (that quotient exactly, then cut).");
        table("10:5,20:15", new int[] {11, 6}, new int[] {19, 14});
        table("0:0,3:10", new int[] {1, 3}, new int[] {2, 6});
        table("0:10,3:0", new int[] {1, 7}, new int[] {2, 4});
        table("0:0,99999:99999", new int[] {1, 1}, new int[] {50000, 50000}, new int[] {99998, 99998});
        table("0:99999,99999:0", new int[] {1, 99998}, new int[] {99998, 1});
        table("0:0,99999:99998", new int[] {99998, 99997}, new int[] {1, 0});
        table("0:99998,99999:0", new int[] {1, 99998}, new int[] {99998, 99998 - 99997});
        table("5:7,9:7", new int[] {6, 7});
        StoreStreams last = with(numbers(14) + "table y=0:3,4:7;helper z=y[2]*10+y[9];");
        due("a TABLE that is THING 14", last.value(15), 57);
        Check.read(last, numbers(14) + "helper y=3;table z=0:3,1:4,2:5,3:6,4:7,5:8;");
        due("a TABLE that is THING 15", last.value(15), 0);
        table("0:0,1:9,2:3,3:8,4:4,5:7", new int[] {1, 9}, new int[] {2, 3}, new int[] {3, 8}, new int[] {4, 4});
        table("0:0,10:100,20:0,30:50,40:50,50:1", new int[] {5, 50}, new int[] {10, 100}, new int[] {15, 50},
            new int[] {20, 0}, new int[] {29, 45}, new int[] {35, 50}, new int[] {41, 46}, new int[] {49, 6});
    }

    private static void flow(StoreStreams x, int i, int flow, int cut) {
        due("flow(" + i + ", 0)", x.flow(i, 0), flow);
        due("flow(" + i + ", 1)", x.flow(i, 1), cut);
    }

    private static void flowsUncut() {
        says("2", "FLOW of a STREAM at a step: its VALUE;");
        StoreStreams x = with("store a=10;stream f from a to out=4;stream g from a to a=6;stream h from out to a=99999;"
            + "stream i from out to out=99999*9999;");
        flow(x, 1, 4, 0);
        flow(x, 2, 6, 0);
        flow(x, 3, 99999, 0);
        flow(x, 4, 999890001, 0);
        StoreStreams y = with("store a=0;stream f from a to out=0;stream g from out to a=5;");
        flow(y, 1, 0, 0);
        flow(y, 2, 5, 0);
    }

    private static void flowsCut() {
        says("2", "but if the VALUES of all STREAMS from a STORE are together (exactly) more than it holds, VALUE times what it "
            + "holds by that sum (exactly, cut) of each of these.");
        StoreStreams x = with("store a=10;stream f from a to out=4;stream g from a to a=7;store b=10;stream h from b to a=10;");
        flow(x, 1, 3, 1);
        flow(x, 2, 6, 1);
        flow(x, 4, 10, 0);
        StoreStreams y = with("store a=0;stream f from a to out=1;");
        flow(y, 1, 0, 1);
        StoreStreams most = with("store a=99999;number p=0;stream f from a to out=p;stream g from a to out=p;"
            + "stream h from a to out=1;");
        most.change(1, MOST);
        flow(most, 2, 49999, MOST - 49999);
        flow(most, 3, 49999, MOST - 49999);
        flow(most, 4, 0, 1);
        most.run(1);
        due("what cutting leaves", most.value(0), 1);
        StoreStreams wraps = with("store a=9;number p=0;stream f from a to out=p;stream g from a to out=p;stream h from a to "
            + "out=4;");
        wraps.change(1, MOST);
        flow(wraps, 2, 4, MOST - 4);
        flow(wraps, 4, 0, 4);
        StoreStreams one = with("store a=99999;number p=0;stream f from a to out=p;");
        one.change(1, MOST);
        flow(one, 2, 99999, MOST - 99999);
        one.run(1);
        due("all is gone", one.value(0), 0);
        StoreStreams full = with("store a=0;stream i from out to a=99999*10+9;number p=0;stream f from a to out=p;");
        full.run(1);
        full.change(2, MOST);
        flow(full, 3, 999999, MOST - 999999);
    }

    private static void spilling() {
        says("2", "A STEP: STORES lose the FLOWS of STREAMS from them, get those of STREAMS to them; what one would hold above "
            + "999999 SPILLS.");
        StoreStreams x = with("store a=9;number n=0;stream f from out to a=n;stream g from a to out=n=1;");
        x.change(1, 999990);
        x.run(1);
        due("999999 is held", x.value(0), 999999);
        due("SPILLED", x.sum(1), 0);
        x.change(1, 1);
        x.run(1);
        due("one comes and one goes", x.value(0), 999999);
        due("SPILLED", x.sum(1), 0);
        x.change(1, 2);
        x.run(1);
        due("two come", x.value(0), 999999);
        due("SPILLED", x.sum(1), 2);
        x.change(1, MOST);
        x.run(1);
        due("value(0)", x.value(0), 999999);
        due("SPILLED", x.sum(1), 2 + (long) MOST);
        StoreStreams y = with("store a=9;store b=1;stream f from a to b=4;stream g from b to a=3;stream h from a to a=9;");
        // of a 13 are asked: 4 * 9 / 13 is 2, 9 * 9 / 13 is 6; of b 3 where 1 is: 1
        y.run(1);
        due("a", y.value(0), 9 - 2 - 6 + 1 + 6);
        due("b", y.value(1), 1 - 1 + 2);
        StoreStreams two = with("store a=0;store b=0;number p=0;stream f from out to a=p;stream g from out to b=p;"
            + "stream h from out to b=p;");
        two.change(2, MOST);
        two.run(1);
        due("both STORES SPILL", two.sum(1), 3L * MOST - 2 * 999999);
        due("sum(0)", two.sum(0), 2 * 999999);
    }

    private static void cameAndWent() {
        says("2", "FLOWS from out CAME, those to out WENT (a STREAM from out to out both).");
        StoreStreams x = with("store a=10;store b=0;stream f from out to a=3;stream g from a to out=4;stream h from a to b=5;"
            + "stream i from out to out=7;");
        x.run(1);
        due("CAME", x.sum(2), 10);
        due("WENT", x.sum(3), 11);
        StoreStreams first = with("stream f from out to out=3;store a=1;");
        due("flow(0, 0)", first.flow(0, 0), 3);
        first.run(2);
        due("CAME by THING 0", first.sum(2), 6);
        due("WENT by THING 0", first.sum(3), 6);
        StoreStreams last = with(numbers(14) + "store y=9;stream z from y to out=4;");
        last.run(2);
        due("WENT by THING 15", last.sum(3), 8);
        StoreStreams cut = with("store a=5;stream f from a to out=9;");
        cut.run(3);
        due("WENT, cut", cut.sum(3), 5);
        due("CAME", cut.sum(2), 0);
        StoreStreams most = with("number p=0;stream f from out to out=p;");
        most.change(0, MOST);
        most.run(60);
        due("CAME beyond ints", most.sum(2), 60L * MOST);
        due("WENT beyond ints", most.sum(3), 60L * MOST);
    }

    private static void eventsOfTheStep() {
        says("2", "Then the step is one more, and EVENTS of that step are done, by numbers.");
        StoreStreams x = with("store a=0;number n=1;stream f from out to a=n;delay d=1 of n;");
        x.event(2, 1, 10);
        x.event(2, 1, 20);
        x.event(1, 1, 5);
        x.event(3, 1, 0);
        x.run(4);
        values(x, 0, 0, 1, 6, 26, 26);
        values(x, 1, 1, 5, 20, 0, 0);
        values(x, 3, 0, 1, 5, 20, 0);
        StoreStreams y = with("number n=1;number m=1;");
        y.event(1, 0, 7);
        y.event(1, 1, 8);
        y.run(1);
        due("both are done", y.value(0), 7);
        due("both are done", y.value(1), 8);
    }

    private static void sixEvents() {
        says("2", "EVENTS, 6 at most, numbered as they come: a step, a NUMBER, what it becomes then.");
        StoreStreams x = with("number n=1;number m=2;");
        int[] steps = {60, 1, 1, 5, 3, 2};
        int[] becomes = {NO, 10, -1, MOST, 0, 77};
        for (int k = 0; k < 6; k++) due("event " + k, x.event(steps[k], 0, becomes[k]), k);
        due("a seventh", x.event(4, 0, 1), FULL);
        due("many(2)", x.many(2), 6);
        x.run(60);
        due("at(0, 0)", x.at(0, 0), 1);
        due("at(0, 1)", x.at(0, 1), -1);
        due("at(0, 2)", x.at(0, 2), 77);
        due("at(0, 3)", x.at(0, 3), 0);
        due("at(0, 4)", x.at(0, 4), 0);
        due("at(0, 5)", x.at(0, 5), MOST);
        due("at(0, 59)", x.at(0, 59), MOST);
        due("at(0, 60)", x.at(0, 60), NO);
        due("value(1)", x.value(1), 2);
        due("many(2): those that are done are there still", x.many(2), 6);
        x.begin();
        due("a seventh at step 0", x.event(4, 0, 1), FULL);
    }

    private static void sixtySteps() {
        says("2", "Steps go to 60.");
        StoreStreams x = with("store a=0;stream f from out to a=1;");
        due("run(59)", x.run(59), 59);
        due("run(1)", x.run(1), 60);
        due("value(0)", x.value(0), 60);
        due("run(1)", x.run(1), FULL);
        due("many(1)", x.many(1), 60);
        for (int step = 0; step <= 60; step++) due("at(0, " + step + ")", x.at(0, step), step);
        due("at(0, 61)", x.at(0, 61), NO);
    }

    private static void beginning() {
        says("2", "begin(): the step is 0, all STORES, NUMBERS, DELAYS are as the text has them, nothing SPILLED, CAME, WENT; "
            + "EVENTS stay (those of step 0 there are none).");
        StoreStreams x = with("store a=9;number n=4;stream f from out to a=99999*10;stream g from a to out=n;delay d=2 of n;"
            + "number m=6;");
        x.event(1, 1, 5);
        x.change(5, 8);
        x.run(4);
        due("SPILLED", x.sum(1) > 0 ? 1 : 0, 1);
        due("d at 4", x.value(4), 5);
        due("begin()", x.begin(), 4);
        int[] first = {9, 4, 999990, 4, 0, 6};
        for (int i = 0; i < 6; i++) due("value(" + i + ")", x.value(i), first[i]);
        for (int what = 1; what <= 3; what++) due("sum(" + what + ")", x.sum(what), 0);
        due("many(1)", x.many(1), 0);
        due("many(2)", x.many(2), 1);
        x.run(1);
        due("d at 1: nothing of the run ahead", x.value(4), 0);
        due("n at 1: the EVENT is done again", x.value(1), 5);
        x.run(2);
        due("d at 3", x.value(4), 5);
        due("event(0, ..): none of step 0", with("number n=1;").event(0, 0, 1), BAD);
    }
}
