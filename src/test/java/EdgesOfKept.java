/** The edges that promises 37 and 38 name: keep, back. */
final class EdgesOfKept extends Edges {
    private EdgesOfKept() {
    }

    static void all() {
        keep();
        back();
        backNone();
    }

    /** The WORLD's THINGS as they were at step 2, when they were kept; the EVENT of step 5 is to come. */
    private static void asKept(StoreStreams x) {
        due("many(0)", x.many(0), 7);
        due("many(1)", x.many(1), 2);
        due("many(2)", x.many(2), 1);
        values(x, 0, 10, 7, 4);
        values(x, 1, 4, 4, 3);
        values(x, 3, 0, 0, 10);
        due("at(0, 3)", x.at(0, 3), NO);
        due("flow(2, 0)", x.flow(2, 0), 3);
        due("sum(0)", x.sum(0), 4);
        due("sum(2)", x.sum(2), 2);
        due("sum(3)", x.sum(3), 8);
        due("thing(2, 2)", x.thing(2, 2), 0);
        due("named(h)", x.named(8), 5);
        due("moves(0)", x.moves(0), 0b101000);
    }

    private static void keep() {
        says("Promise 37", "All but THE TAPE, fault(), ROWS, SHEETS, SHELVES, THE TRACE is kept: 1.");
        StoreStreams x = WORLD.get();
        due("back()", x.back(), 2);
        asKept(x);
        due("many(3): ROWS stay", x.many(3), 4);
        due("row(3, 1): ROWS stay", x.row(3, 1), 2);
        due("many(4): THE TAPE stays", x.many(4), 10);
        due("many(5): THE TRACE stays", x.many(5), 3);
        due("fault(0) stays", x.fault(0), 1);
        due("fault(1) stays", x.fault(1), 10);
        due("item(0, 2, 0): SHEETS stay", x.item(0, 2, 0), 9);
        due("taken(2, 12): SHELVES stay", x.taken(2, 12), 3);
        due("taken(1, 4): SHELVES stay", x.taken(1, 4), 4);
        x.run(1);
        due("value(3) at 3: DELAYS are kept", x.value(3), 7);
        x.run(1);
        due("value(3) at 4", x.value(3), 4);
        x.run(1);
        due("value(1) at 5: EVENTS are kept", x.value(1), 2);
        due("keep()", x.keep(), 1);
        due("keep() once more", x.keep(), 1);
        StoreStreams empty = new StoreStreams();
        due("keep() of a new one", empty.keep(), 1);
        Check.read(empty, "store a=1;");
        empty.run(60);
        due("back()", empty.back(), 0);
        due("many(0)", empty.many(0), 0);
        StoreStreams last = with("store a=0;stream f from out to a=1;");
        last.run(60);
        due("keep() at 60", last.keep(), 1);
        last.begin();
        last.run(60);
        last.begin();
        due("back() to 60", last.back(), 60);
        for (int step = 0; step <= 60; step++) due("at(0, " + step + ")", last.at(0, step), step);
        due("run(1)", last.run(1), FULL);
        StoreStreams most = with("store a=0;number p=0;stream f from out to a=p;stream g from out to out=p;");
        most.change(1, MOST);
        most.run(3);
        most.keep();
        most.begin();
        most.back();
        due("SPILLED is kept", most.sum(1), 3L * MOST - 999999);
        due("CAME is kept", most.sum(2), 6L * MOST);
        due("WENT is kept", most.sum(3), 3L * MOST);
        wholeTexts();
    }

    /** All parts of a text come back, from among texts that have other parts at the same numbers. */
    private static void wholeTexts() {
        comesBack("table t=0:3,10:13,20:113;store a=7;stream f from a to a=t[a]-9;stream g from out to a=t[a*2]+a;"
            + "delay d=2 of least(a,-a)*2;helper h=t[t[4]]<9;", 6,
            "table r=5:50,6:60;helper p=5*5-4;helper q=p*(p+1)/3;store s=1;stream t from s to out=q+r[6];"
            + "delay u=9 of p;stream v from s to s=1;");
        comesBack(numbers(7) + "store h=9;stream i from h to out=2;stream j from out to h=1;table k=0:1,9:9;helper l=k[h];"
            + "delay m=2 of h;delay n=9 of l;store o=5;stream p from o to h=k[o];", 16,
            numbers(7) + "table q=0:5,1:6;store r=1;store s=2;helper t=7;delay u=1 of t;delay v=1 of t*2;delay w=3 of t*3;"
            + "stream x from s to out=t;table y=1:1,2:2;");
    }

    /** A world that is kept at step 1 is behind back() as one that was never left. */
    private static void comesBack(String first, int things, String other) {
        StoreStreams x = with(first);
        StoreStreams y = with(first);
        x.run(1);
        y.run(1);
        x.keep();
        for (int k = 0; k < 3; k++) Check.read(x, other);
        x.run(4);
        due("back()", x.back(), 1);
        for (int i = 0; i < things; i++) {
            for (int what = 0; what <= 3; what++) due("thing(" + i + ", " + what + ")", x.thing(i, what), y.thing(i, what));
            due("moves(" + i + ")", x.moves(i), y.moves(i));
            due("value(" + i + ")", x.value(i), y.value(i));
        }
        x.run(9);
        y.run(9);
        for (int i = 0; i < things; i++) {
            for (int step = 0; step <= 10; step += 2) due("at(" + i + ", " + step + ")", x.at(i, step), y.at(i, step));
        }
    }

    private static void back() {
        says("Promise 38", "It becomes what was kept latest (which stays): the step.");
        StoreStreams x = WORLD.get();
        due("back()", x.back(), 2);
        due("back() once more", x.back(), 2);
        asKept(x);
        x.change(1, 99);
        x.event(9, 1, 5);
        x.run(58);
        due("back() from step 60", x.back(), 2);
        asKept(x);
        Check.feed(x, "table t=0:0,1:1;store s=5;stream u from s to out=t[s];");
        due("read() of another text", x.read(), 4);
        due("back() from another text", x.back(), 2);
        asKept(x);
        x.begin();
        x.change(1, 0);
        x.run(5);
        due("back() from another run", x.back(), 2);
        asKept(x);
        x.begin();
        due("keep() at 0", x.keep(), 1);
        x.run(7);
        due("back() to the latest", x.back(), 0);
        due("value(1)", x.value(1), 4);
        due("read() with a FAULT", Check.read(x, "?"), -101);
        due("back(): what was kept stays", x.back(), 0);
        due("fault(0) stays", x.fault(0), 1);
    }

    private static void backNone() {
        says("Promise 38", "NONE: nothing is kept.");
        refused(StoreStreams::new, "back() of a new one", x -> x.back(), NONE);
        refused(() -> with("store a=1;stream f from out to a=1;"), "back()", x -> x.back(), NONE);
        StoreStreams x = with("store a=1;");
        x.run(5);
        due("back()", x.back(), NONE);
        due("many(1)", x.many(1), 5);
        x.begin();
        due("back()", x.back(), NONE);
        x.keep();
        due("back() behind keep()", x.back(), 0);
    }
}
