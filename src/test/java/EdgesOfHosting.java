/** The edges that promises 29 to 36 name: sheet, put, item, shelf, taken, act, trace, many. */
final class EdgesOfHosting extends Edges {
    /** Numbers that are none of a SHEET, a SHELF, a sort or an ACT. */
    private static final int[] NOT_OF_FOUR = {-1, 4, 5, NO, MOST};

    private EdgesOfHosting() {
    }

    static void all() {
        sheet();
        sheetRefused();
        put();
        putRefused();
        item();
        itemRefused();
        itemsAsLow();
        shelf();
        shelfBad();
        taken();
        takenRefused();
        act();
        actNothing();
        trace();
        traceNone();
        many();
        manyBad();
    }

    private static void sheet() {
        says("Promise 29", "A SHEET becomes a row of n of a sort, all 0, or missing (sort -1; n counts nothing then): 1.");
        for (int sheet = 0; sheet <= 3; sheet++) {
            StoreStreams x = WORLD.get();
            for (int sort = 0; sort <= 3; sort++) {
                for (int n : new int[] {40, 1, 0}) {
                    due("sheet(" + sheet + ", " + sort + ", " + n + ")", x.sheet(sheet, sort, n), 1);
                    for (int i = 0; i < n; i++) due("item " + i, x.item(sheet, sort, i), 0);
                    due("item " + n, x.item(sheet, sort, n), -12);
                    if (n > 0) due("put", x.put(sheet, n - 1, 77), 1);
                }
            }
            for (int n : new int[] {0, 40, 41, -1, NO, MOST}) {
                x.sheet(sheet, 0, 1);
                due("sheet(" + sheet + ", -1, " + n + ")", x.sheet(sheet, -1, n), 1);
                due("item: missing", x.item(sheet, 0, 0), -11);
            }
        }
        StoreStreams x = WORLD.get();
        x.sheet(3, 0, 40);
        due("another SHEET stays", x.item(0, 2, 0), 9);
        due("another SHEET stays", x.item(1, 0, 1), -7);
    }

    private static void sheetRefused() {
        says("Promise 29", "BAD: no such SHEET, sort, n above 40; -14.");
        for (int sheet : NOT_OF_FOUR) {
            refused(WORLD, "sheet(" + sheet + ", 0, 1)", x -> x.sheet(sheet, 0, 1), BAD);
            due("sheet(" + sheet + ", -1, 0)", WORLD.get().sheet(sheet, -1, 0), BAD);
            due("sheet(" + sheet + ", 0, -1): BAD is named first", WORLD.get().sheet(sheet, 0, -1), BAD);
        }
        for (int sort : new int[] {-2, 4, 5, NO, MOST}) {
            refused(WORLD, "sheet(0, " + sort + ", 1)", x -> x.sheet(0, sort, 1), BAD);
            due("sheet(0, " + sort + ", -1): BAD is named first", WORLD.get().sheet(0, sort, -1), BAD);
        }
        for (int sort = 0; sort <= 3; sort++) {
            int of = sort;
            for (int n : new int[] {41, 42, MOST}) refused(WORLD, "sheet(0, " + sort + ", " + n + ")", x -> x.sheet(0, of, n), BAD);
            for (int n : new int[] {-1, -40, NO}) refused(WORLD, "sheet(0, " + sort + ", " + n + ")", x -> x.sheet(0, of, n), -14);
        }
    }

    private static void narrowed(int sort, int v, int want) {
        StoreStreams x = new StoreStreams();
        x.sheet(2, sort, 3);
        due("put(2, 1, " + v + ")", x.put(2, 1, v), 1);
        due("item(2, " + sort + ", 1)", x.item(2, sort, 1), want);
        due("item(2, " + sort + ", 0)", x.item(2, sort, 0), 0);
        due("item(2, " + sort + ", 2)", x.item(2, sort, 2), 0);
    }

    private static void put() {
        says("Promise 30", "Item i becomes v, narrowed to its sort: 1.");
        int[][] bytes = {{127, 127}, {128, -128}, {255, -1}, {256, 0}, {-128, -128}, {-129, 127}, {MOST, -1}, {NO, 0}};
        for (int[] pair : bytes) narrowed(0, pair[0], pair[1]);
        int[][] shorts = {{32767, 32767}, {32768, -32768}, {65535, -1}, {65536, 0}, {-32768, -32768}, {-32769, 32767},
            {MOST, -1}, {NO, 0}};
        for (int[] pair : shorts) narrowed(1, pair[0], pair[1]);
        for (int v : new int[] {MOST, NO, 0, -1, 65536}) {
            narrowed(2, v, v);
            narrowed(3, v, v);
        }
        StoreStreams x = new StoreStreams();
        x.sheet(0, 2, 40);
        due("put(0, 0, 5)", x.put(0, 0, 5), 1);
        due("put(0, 39, 6)", x.put(0, 39, 6), 1);
        due("put(0, 39, 7)", x.put(0, 39, 7), 1);
        due("item(0, 2, 0)", x.item(0, 2, 0), 5);
        due("item(0, 2, 39)", x.item(0, 2, 39), 7);
    }

    private static void putRefused() {
        says("Promise 30", "BAD: no such SHEET; -11; -12.");
        for (int sheet : NOT_OF_FOUR) refused(WORLD, "put(" + sheet + ", 0, 1)", x -> x.put(sheet, 0, 1), BAD);
        for (int i : new int[] {0, -1, 40, NO, MOST}) refused(WORLD, "put(2, " + i + ", 1)", x -> x.put(2, i, 1), -11);
        for (int i : new int[] {-1, 3, 39, 40, NO, MOST}) refused(WORLD, "put(0, " + i + ", 1)", x -> x.put(0, i, 1), -12);
        refused(WORLD, "put(3, 40, 1)", x -> x.put(3, 40, 1), -12);
        StoreStreams none = new StoreStreams();
        none.sheet(0, 0, 0);
        due("put(0, 0, 1) of no items", none.put(0, 0, 1), -12);
    }

    private static void item() {
        says("Promise 31", "Item i, taken for a sort (0 to 3; of longs the lowest 32 bits).");
        for (int sort = 0; sort <= 3; sort++) {
            StoreStreams x = new StoreStreams();
            x.sheet(3, sort, 40);
            x.put(3, 0, 5);
            x.put(3, 39, -6);
            due("item(3, " + sort + ", 0)", x.item(3, sort, 0), 5);
            due("item(3, " + sort + ", 39)", x.item(3, sort, 39), -6);
        }
        StoreStreams longs = WORLD.get();
        due("item(3, 3, 39): the lowest 32 bits", longs.item(3, 3, 39), NO);
        longs.put(3, 0, -1);
        due("item(3, 3, 0): the lowest 32 bits", longs.item(3, 3, 0), -1);
        longs.put(3, 0, MOST);
        due("item(3, 3, 0): the lowest 32 bits", longs.item(3, 3, 0), MOST);
    }

    private static void itemRefused() {
        says("Promise 31", "BAD: no such SHEET, sort; -13; -11; -12.");
        for (int sheet : NOT_OF_FOUR) {
            refused(WORLD, "item(" + sheet + ", 0, 0)", x -> x.item(sheet, 0, 0), BAD);
            refused(WORLD, "item(0, " + sheet + ", 0)", x -> x.item(0, sheet, 0), BAD);
            due("item(2, " + sheet + ", 0): BAD is named first", WORLD.get().item(2, sheet, 0), BAD);
        }
        for (int as : new int[] {0, 1, 3}) {
            refused(WORLD, "item(0, " + as + ", 0)", x -> x.item(0, as, 0), -13);
            due("item(0, " + as + ", 3): -13 is named ahead of -12", WORLD.get().item(0, as, 3), -13);
        }
        for (int sort = 0; sort <= 3; sort++) {
            int as = sort;
            refused(WORLD, "item(2, " + sort + ", 0)", x -> x.item(2, as, 0), -11);
            due("item(2, " + sort + ", -1): -11 is named ahead of -12", WORLD.get().item(2, sort, -1), -11);
        }
        for (int i : new int[] {-1, 3, 39, 40, NO, MOST}) refused(WORLD, "item(0, 2, " + i + ")", x -> x.item(0, 2, i), -12);
        refused(WORLD, "item(3, 3, 40)", x -> x.item(3, 3, 40), -12);
    }

    private static void itemsAsLow() {
        says("Promise 31", "(An item may be as low as these, too.)");
        StoreStreams x = new StoreStreams();
        for (int sort = 0; sort <= 3; sort++) {
            x.sheet(0, sort, 1);
            for (int v : new int[] {-1, -11, -12, -13, -14, -15}) {
                due("put(0, 0, " + v + ")", x.put(0, 0, v), 1);
                due("item(0, " + sort + ", 0)", x.item(0, sort, 0), v);
            }
        }
    }

    private static void shelf() {
        says("Promise 32", "A SHELF holds THING n (what 0), the row of SHEET n (1; nothing, if missing), nothing (2): 1.");
        for (int shelf = 0; shelf <= 3; shelf++) {
            StoreStreams x = with(numbers(15) + "store z=1;");
            x.sheet(3, 1, 40);
            x.sheet(0, 2, 0);
            due("shelf(" + shelf + ", 0, 15)", x.shelf(shelf, 0, 15), 1);
            due("taken as a STORE", x.taken(shelf, 1), 15);
            due("shelf(" + shelf + ", 0, 0)", x.shelf(shelf, 0, 0), 1);
            due("taken as a NUMBER", x.taken(shelf, 5), 0);
            due("shelf(" + shelf + ", 1, 3)", x.shelf(shelf, 1, 3), 1);
            due("taken as shorts", x.taken(shelf, 11), 40);
            due("shelf(" + shelf + ", 1, 0)", x.shelf(shelf, 1, 0), 1);
            due("taken as ints", x.taken(shelf, 12), 0);
            due("shelf(" + shelf + ", 1, 1)", x.shelf(shelf, 1, 1), 1);
            due("taken: nothing", x.taken(shelf, 12), -11);
            for (int n : new int[] {0, -1, 16, NO, MOST}) {
                x.shelf(shelf, 0, 2);
                due("shelf(" + shelf + ", 2, " + n + ")", x.shelf(shelf, 2, n), 1);
                due("taken: nothing", x.taken(shelf, 0), -11);
            }
            for (int other = 0; other <= 3; other++) due("the others hold nothing", x.taken(other, 0), -11);
        }
    }

    private static void shelfBad() {
        says("Promise 32", "BAD: no such SHELF, what, thing.");
        for (int shelf : NOT_OF_FOUR) {
            for (int what = 0; what <= 2; what++) {
                int of = what;
                refused(WORLD, "shelf(" + shelf + ", " + what + ", 0)", x -> x.shelf(shelf, of, 0), BAD);
            }
        }
        for (int what : new int[] {-1, 3, NO, MOST}) refused(WORLD, "shelf(0, " + what + ", 0)", x -> x.shelf(0, what, 0), BAD);
        for (int n : new int[] {-1, 7, 16, NO, MOST}) {
            refused(WORLD, "shelf(0, 0, " + n + ")", x -> x.shelf(0, 0, n), BAD);
            refused(WORLD, "shelf(2, 0, " + n + ")", x -> x.shelf(2, 0, n), BAD);
        }
        for (int n : NOT_OF_FOUR) refused(WORLD, "shelf(0, 1, " + n + ")", x -> x.shelf(0, 1, n), BAD);
        due("shelf(0, 0, 16) of 16", with(numbers(16)).shelf(0, 0, 16), BAD);
    }

    private static void taken() {
        says("Promise 33", "What a SHELF holds taken for a thing of kind as (0 to 6, or one under it): its number; for a row of "
            + "sort as - 10 (as 10 to 13): how many items.");
        StoreStreams x = WORLD.get();
        // a NUMBER, a TABLE, a row of three ints
        due("taken(0, 0)", x.taken(0, 0), 1);
        due("taken(0, 5)", x.taken(0, 5), 1);
        due("taken(1, 0)", x.taken(1, 0), 4);
        due("taken(1, 3)", x.taken(1, 3), 4);
        due("taken(1, 4)", x.taken(1, 4), 4);
        due("taken(2, 12)", x.taken(2, 12), 3);
        x.shelf(0, 0, 5);
        due("taken(0, 6) of a HELPER", x.taken(0, 6), 5);
        due("taken(0, 5) of a HELPER", x.taken(0, 5), 5);
        x.shelf(3, 0, 3);
        for (int as = 0; as <= 2; as++) due("taken(3, " + as + ") of a DELAY", x.taken(3, as), 3);
        for (int sort = 0; sort <= 3; sort++) {
            for (int n : new int[] {0, 1, 40}) {
                x.sheet(2, sort, n);
                x.shelf(3, 1, 2);
                due("taken(3, " + (10 + sort) + ")", x.taken(3, 10 + sort), n);
            }
        }
    }

    private static void takenRefused() {
        says("Promise 33", "BAD: no such SHELF, as; -13; -11.");
        for (int shelf : NOT_OF_FOUR) {
            refused(WORLD, "taken(" + shelf + ", 0)", x -> x.taken(shelf, 0), BAD);
            due("taken(" + shelf + ", 12)", WORLD.get().taken(shelf, 12), BAD);
        }
        for (int as : new int[] {-1, 7, 8, 9, 14, 15, NO, MOST}) {
            for (int shelf = 0; shelf <= 3; shelf++) {
                int of = shelf;
                refused(WORLD, "taken(" + shelf + ", " + as + ")", x -> x.taken(of, as), BAD);
            }
        }
        for (int as : new int[] {1, 2, 3, 4, 6, 10, 11, 12, 13}) refused(WORLD, "taken(0, " + as + ")", x -> x.taken(0, as), -13);
        for (int as : new int[] {1, 2, 5, 6, 10, 13}) refused(WORLD, "taken(1, " + as + ")", x -> x.taken(1, as), -13);
        for (int as : new int[] {0, 1, 2, 3, 4, 5, 6, 10, 11, 13}) {
            refused(WORLD, "taken(2, " + as + ")", x -> x.taken(2, as), -13);
        }
        for (int as : new int[] {0, 1, 2, 3, 4, 5, 6, 10, 11, 12, 13}) {
            refused(WORLD, "taken(3, " + as + ")", x -> x.taken(3, as), -11);
        }
    }

    private static void act() {
        says("Promise 34", "An ACT (0 to 3) of the thing on a SHELF, with x.");
        for (int shelf = 0; shelf <= 3; shelf++) {
            StoreStreams x = with("number z=1;store abc=1;");
            x.shelf(shelf, 0, 1);
            due("act(" + shelf + ", 0, 9)", x.act(shelf, 0, 9), 10);
            due("act(" + shelf + ", 1, 9)", x.act(shelf, 1, 9), 17);
            due("act(" + shelf + ", 2, 9)", x.act(shelf, 2, 9), 4);
            due("act(" + shelf + ", 3, 9)", x.act(shelf, 3, 9), 17 ^ 3);
            due("many(5)", x.many(5), 4);
            x.run(3);
            due("act(" + shelf + ", 0, 9) at another step", x.act(shelf, 0, 9), 10);
        }
    }

    private static void actNothing() {
        says("Promise 34", "0, and no TRACE then: no such SHELF, act, nothing, a row.");
        // SHELF 2 has a row, SHELF 3 nothing
        int[][] calls = {{-1, 0}, {4, 0}, {NO, 0}, {MOST, 0}, {0, -1}, {0, 4}, {0, NO}, {0, MOST}, {2, 0}, {2, 1}, {2, 2},
            {2, 3}, {3, 0}, {3, 1}, {3, 2}, {3, 3}, {2, 4}, {3, -1}, {4, 4}};
        for (int[] call : calls) {
            StoreStreams x = WORLD.get();
            due("many(5)", x.many(5), 3);
            due("act(" + call[0] + ", " + call[1] + ", 9)", x.act(call[0], call[1], 9), 0);
            due("many(5)", x.many(5), 0);
            due("trace(0)", x.trace(0), NONE);
        }
        StoreStreams gone = WORLD.get();
        gone.read();
        due("act(1, 0, 9): no such THING any more", gone.act(1, 0, 9), 0);
        due("many(5)", gone.many(5), 0);
        due("act(0, 0, 9) of a new one", new StoreStreams().act(0, 0, 9), 0);
        StoreStreams parted = with("number z=1;store a=1;");
        parted.shelf(0, 0, 1);
        parted.act(0, 2, 9);
        due("act(1, 2, 9) behind -15", parted.act(1, 2, 9), 0);
        due("many(5)", parted.many(5), 0);
    }

    private static void trace() {
        says("Promise 35", "THE TRACE's i-th body.");
        StoreStreams x = WORLD.get();
        int[] bodies = {11, 60, 10};
        for (int k = 0; k < 3; k++) due("trace(" + k + ")", x.trace(k), bodies[k]);
        x.act(1, 2, 5);
        int[] more = {51, 40, 12, 50, 10};
        for (int k = 0; k < 5; k++) due("trace(" + k + ")", x.trace(k), more[k]);
    }

    private static void traceNone() {
        says("Promise 35", "NONE.");
        for (int i : new int[] {-1, 3, 4, 29, 30, 31, NO, MOST}) refused(WORLD, "trace(" + i + ")", x -> x.trace(i), NONE);
        due("trace(0) of a new one", new StoreStreams().trace(0), NONE);
        StoreStreams x = WORLD.get();
        x.act(1, 2, 5);
        x.act(0, 0, 5);
        due("trace(2): of an earlier act()", x.trace(2), NONE);
    }

    private static void many() {
        says("Promise 36", "How many: what = 0 THINGS, 1 steps till now, 2 EVENTS, 3 ROWS, 4 bytes of THE TAPE, 5 bodies of THE "
            + "TRACE (those kept, 30 at most).");
        StoreStreams x = WORLD.get();
        int[] due = {7, 3, 1, 4, 10, 3};
        for (int what = 0; what <= 5; what++) {
            due("many(" + what + ")", x.many(what), due[what]);
            due("many(" + what + ") of a new one", new StoreStreams().many(what), 0);
        }
        StoreStreams most = with(numbers(15) + "helper z=1;");
        for (int k = 0; k < 6; k++) most.event(60, 0, 1);
        most.run(60);
        most.prove(15);
        for (int k = 0; k < 37; k++) most.feed(0, 8);
        most.feed(0, 4);
        most.shelf(0, 0, 15);
        most.act(0, 3, 1);
        int[] full = {16, 60, 6, 61, 300, 7};
        for (int what = 0; what <= 5; what++) due("many(" + what + ") at the most", most.many(what), full[what]);
        most.feed(0, 1);
        most.event(60, 0, 1);
        most.run(1);
        for (int what = 0; what <= 5; what++) due("many(" + what + ") behind refusals", most.many(what), full[what]);
    }

    private static void manyBad() {
        says("Promise 36", "BAD: another what.");
        for (int what : new int[] {-1, 6, 7, NO, MOST}) refused(WORLD, "many(" + what + ")", x -> x.many(what), BAD);
    }
}
