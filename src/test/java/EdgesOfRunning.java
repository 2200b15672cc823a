/** The edges that promises 7 to 14 name: value, at, flow, run, begin, change, event, sum. */
final class EdgesOfRunning extends Edges {
    private EdgesOfRunning() {
    }

    static void all() {
        valueNow();
        valueNo();
        atAStep();
        atNo();
        flowTold();
        flowRefused();
        runs();
        runRefused();
        begins();
        changes();
        changeNo();
        events();
        eventRefused();
        sums();
        sumBad();
    }

    private static void valueNow() {
        says("Promise 7", "The VALUE of a THING now.");
        StoreStreams x = WORLD.get();
        int[] now = {2, 3, 3, 7, 0, 2, 1};
        for (int i = 0; i < 7; i++) due("value(" + i + ")", x.value(i), now[i]);
        x.run(57);
        due("value(0) at 60", x.value(0), x.at(0, 60));
        x.begin();
        due("value(0) at 0", x.value(0), 10);
    }

    private static void valueNo() {
        says("Promise 7", "NO: no such THING.");
        for (int i : new int[] {-1, 7, 15, 16, 17, NO, MOST}) refused(WORLD, "value(" + i + ")", x -> x.value(i), NO);
        due("value(16) of 16", with(numbers(16)).value(16), NO);
        due("value(15) of 16", with(numbers(16)).value(15), 1);
    }

    private static void atAStep() {
        says("Promise 8", "The VALUE that a THING had at a step (0 to now).");
        StoreStreams x = WORLD.get();
        values(x, 0, 10, 7, 4, 2);
        values(x, 1, 4, 4, 3, 3);
        values(x, 2, 4, 4, 3, 3);
        values(x, 3, 0, 0, 10, 7);
        values(x, 4, 0, 0, 0, 0);
        values(x, 5, 9, 7, 4, 2);
        values(x, 6, 1, 1, 1, 1);
        x.change(1, 8);
        due("at(1, 3): the latest", x.at(1, 3), 8);
        due("at(2, 3): the latest", x.at(2, 3), 8);
        due("at(1, 2): as it was left", x.at(1, 2), 3);
        x.begin();
        due("at(0, 0) behind begin()", x.at(0, 0), 10);
        x.change(1, 1);
        x.run(2);
        values(x, 0, 10, 10, 10);
        due("at(0, 3): of the run ahead", x.at(0, 3), NO);
    }

    private static void atNo() {
        says("Promise 8", "NO.");
        for (int step : new int[] {-1, 4, 5, 60, 61, NO, MOST}) refused(WORLD, "at(0, " + step + ")", x -> x.at(0, step), NO);
        for (int i : new int[] {-1, 7, 16, NO, MOST}) refused(WORLD, "at(" + i + ", 0)", x -> x.at(i, 0), NO);
        StoreStreams x = WORLD.get();
        x.run(57);
        due("at(0, 61) at 60", x.at(0, 61), NO);
        x.begin();
        due("at(0, 1) at 0", x.at(0, 1), NO);
    }

    private static void flowTold() {
        says("Promise 9", "What = 0 FLOW of a STREAM now, 1 by how much its VALUE is cut.");
        StoreStreams x = WORLD.get();
        due("flow(2, 0)", x.flow(2, 0), 2);
        due("flow(2, 1)", x.flow(2, 1), 1);
        due("flow(6, 0)", x.flow(6, 0), 1);
        due("flow(6, 1)", x.flow(6, 1), 0);
        x.change(1, 2);
        due("flow(2, 0) of just what it holds", x.flow(2, 0), 2);
        due("flow(2, 1)", x.flow(2, 1), 0);
        x.change(1, -5);
        due("flow(2, 0) of an E below 0", x.flow(2, 0), 0);
        due("flow(2, 1)", x.flow(2, 1), 0);
        x.change(1, MOST);
        due("flow(2, 0)", x.flow(2, 0), 2);
        due("flow(2, 1)", x.flow(2, 1), MOST - 2);
    }

    private static void flowRefused() {
        says("Promise 9", "BAD: no such THING, what; -13: it is no STREAM.");
        for (int i : new int[] {-1, 7, 16, NO, MOST}) {
            refused(WORLD, "flow(" + i + ", 0)", x -> x.flow(i, 0), BAD);
            due("flow(" + i + ", 1)", WORLD.get().flow(i, 1), BAD);
        }
        for (int what : new int[] {-1, 2, NO, MOST}) {
            refused(WORLD, "flow(2, " + what + ")", x -> x.flow(2, what), BAD);
            due("flow(0, " + what + "): BAD is named first", WORLD.get().flow(0, what), BAD);
        }
        for (int i : new int[] {0, 1, 3, 4, 5}) {
            refused(WORLD, "flow(" + i + ", 0)", x -> x.flow(i, 0), -13);
            due("flow(" + i + ", 1)", WORLD.get().flow(i, 1), -13);
        }
    }

    private static void runs() {
        says("Promise 10", "n STEPS (1 to 60): the step.");
        String text = "store a=0;stream f from out to a=1;";
        StoreStreams x = with(text);
        due("run(1)", x.run(1), 1);
        due("value(0)", x.value(0), 1);
        due("run(2)", x.run(2), 3);
        due("value(0)", x.value(0), 3);
        StoreStreams y = with(text);
        due("run(60)", y.run(60), 60);
        due("value(0)", y.value(0), 60);
        y.begin();
        due("run(60) behind begin()", y.run(60), 60);
        due("value(0)", y.value(0), 60);
        due("run(60) without THINGS", new StoreStreams().run(60), 60);
    }

    private static void runRefused() {
        says("Promise 10", "BAD; FULL: it would be above 60.");
        for (int n : new int[] {0, -1, -60, 61, 62, NO, MOST}) refused(WORLD, "run(" + n + ")", x -> x.run(n), BAD);
        for (int n : new int[] {58, 59, 60}) refused(WORLD, "run(" + n + ")", x -> x.run(n), FULL);
        due("run(57) to 60", WORLD.get().run(57), 60);
        StoreStreams x = WORLD.get();
        x.run(57);
        for (int n = 1; n <= 60; n++) due("run(" + n + ") at 60", x.run(n), FULL);
        due("run(61) at 60", x.run(61), BAD);
        due("many(1)", x.many(1), 60);
    }

    private static void begins() {
        says("Promise 11", "All begins: the step that was.");
        StoreStreams x = WORLD.get();
        due("begin()", x.begin(), 3);
        due("begin() once more", x.begin(), 0);
        int[] first = {10, 4, 4, 0, 0, 9, 1};
        for (int i = 0; i < 7; i++) due("value(" + i + ")", x.value(i), first[i]);
        for (int what = 1; what <= 3; what++) due("sum(" + what + ")", x.sum(what), 0);
        due("many(2): EVENTS stay", x.many(2), 1);
        due("many(3): ROWS stay", x.many(3), 4);
        x.run(60);
        due("value(1): the EVENT was done", x.value(1), 2);
        due("begin()", x.begin(), 60);
        due("back(): what was kept stays", x.back(), 2);
        due("begin() of a new one", new StoreStreams().begin(), 0);
    }

    private static void changes() {
        says("Promise 12", "A NUMBER becomes v now: what it was.");
        StoreStreams x = WORLD.get();
        int[] each = {0, -1, MOST, NO, 7};
        int was = 3;
        for (int v : each) {
            due("change(1, " + v + ")", x.change(1, v), was);
            due("value(1)", x.value(1), v);
            due("value(2)", x.value(2), Math.max(0, v));
            due("many(1)", x.many(1), 3);
            was = v;
        }
        due("at(1, 2): the steps ahead stay", x.at(1, 2), 3);
        x.run(1);
        due("value(1) a step on", x.value(1), 7);
        due("value(0): 2 go and 1 comes", x.value(0), 1);
        x.run(1);
        due("value(1): the EVENT of step 5", x.value(1), 2);
        x.begin();
        due("value(1): as the text has it", x.value(1), 4);
    }

    private static void changeNo() {
        says("Promise 12", "NO: no such THING, it is no NUMBER.");
        for (int i : new int[] {0, 2, 3, 4, 5, 6, -1, 7, 16, NO, MOST}) {
            refused(WORLD, "change(" + i + ", 5)", x -> x.change(i, 5), NO);
        }
    }

    private static void events() {
        says("Promise 13", "An EVENT: its number.");
        StoreStreams x = WORLD.get();
        due("event(4, 1, 6): the second one", x.event(4, 1, 6), 1);
        due("event(60, 1, NO)", x.event(60, 1, NO), 2);
        due("event(4, 1, 7)", x.event(4, 1, 7), 3);
        due("event(59, 1, MOST)", x.event(59, 1, MOST), 4);
        due("event(4, 1, 9)", x.event(4, 1, 9), 5);
        due("many(2)", x.many(2), 6);
        due("value(1): not yet", x.value(1), 3);
        x.run(1);
        due("value(1) at 4: the last one by numbers", x.value(1), 9);
        x.run(1);
        due("value(1) at 5", x.value(1), 2);
        x.run(54);
        due("value(1) at 59", x.value(1), MOST);
        x.run(1);
        due("value(1) at 60", x.value(1), NO);
    }

    private static void eventRefused() {
        says("Promise 13", "BAD: step isn't above now or is above 60, no such THING; -13: it is no NUMBER; FULL.");
        for (int step : new int[] {3, 2, 0, -1, 61, 62, NO, MOST}) {
            refused(WORLD, "event(" + step + ", 1, 5)", x -> x.event(step, 1, 5), BAD);
        }
        due("event(4, 1, 5)", WORLD.get().event(4, 1, 5), 1);
        due("event(60, 1, 5)", WORLD.get().event(60, 1, 5), 1);
        for (int i : new int[] {-1, 7, 16, NO, MOST}) refused(WORLD, "event(4, " + i + ", 5)", x -> x.event(4, i, 5), BAD);
        for (int i : new int[] {0, 2, 3, 4, 5, 6}) refused(WORLD, "event(4, " + i + ", 5)", x -> x.event(4, i, 5), -13);
        StoreStreams full = WORLD.get();
        for (int k = 1; k <= 5; k++) due("event " + k, full.event(9, 1, k), k);
        due("a seventh", full.event(9, 1, 9), FULL);
        due("many(2)", full.many(2), 6);
        due("-13 ahead of FULL", full.event(9, 0, 9), -13);
        due("BAD ahead of FULL", full.event(3, 1, 9), BAD);
        full.run(57);
        due("at 60 no step is above now", full.event(60, 1, 9), BAD);
        due("at 60: 61", full.event(61, 1, 9), BAD);
        due("value(1): the sixth was done, the seventh not", full.value(1), 5);
    }

    private static void sums() {
        says("Promise 14", "What = 0 what all STORES hold together, 1 SPILLED, 2 CAME, 3 WENT so far.");
        StoreStreams x = WORLD.get();
        due("sum(0)", x.sum(0), 2);
        due("sum(1)", x.sum(1), 0);
        due("sum(2)", x.sum(2), 3);
        due("sum(3)", x.sum(3), 11);
        StringBuilder stores = new StringBuilder();
        for (char c = 'a'; c < 'a' + 15; c++) stores.append("store ").append(c).append("=99999;");
        StoreStreams all = with(stores + "stream z from out to a=1;");
        due("sum(0) of fifteen", all.sum(0), 15L * 99999);
        StoreStreams none = with("number n=5;helper h=7;");
        for (int what = 0; what <= 3; what++) due("sum(" + what + ") without STORES", none.sum(what), 0);
        StoreStreams most = with("store a=0;number p=0;stream f from out to a=p;stream g from out to a=p;"
            + "stream h from out to out=p;");
        most.change(1, MOST);
        most.run(60);
        due("sum(1) beyond ints", most.sum(1), 120L * MOST - 999999);
        due("sum(2) beyond ints", most.sum(2), 180L * MOST);
        due("sum(3) beyond ints", most.sum(3), 60L * MOST);
    }

    private static void sumBad() {
        says("Promise 14", "BAD.");
        for (int what : new int[] {-1, 4, NO, MOST}) refused(WORLD, "sum(" + what + ")", x -> x.sum(what), BAD);
    }
}
