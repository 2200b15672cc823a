/** The edges that section 3 of the terms names of ROWS and THE READER, and promises 25 to 28: prove to judge. */
final class EdgesOfRows extends Edges {
    private EdgesOfRows() {
    }

    static void all() {
        rowsOfAThing();
        theReader();
        prove();
        proveBad();
        row();
        rowNo();
        alterRow();
        alterRowNo();
        judge();
        judgeBad();
    }

    private static void rows(StoreStreams x, int... values) {
        due("many(3)", x.many(3), values.length);
        for (int k = 0; k < values.length; k++) {
            due("row(" + k + ", 0)", x.row(k, 0), k);
            due("row(" + k + ", 1)", x.row(k, 1), values[k]);
        }
    }

    private static void rowsOfAThing() {
        says("3", "ROWS of a THING: (step, VALUE) of all steps from 0 to now, as they were.");
        StoreStreams x = WORLD.get();
        due("prove(0)", x.prove(0), 4);
        rows(x, 10, 7, 4, 2);
        due("prove(1)", x.prove(1), 4);
        rows(x, 4, 4, 3, 3);
        due("prove(2): VALUES, not FLOWS", x.prove(2), 4);
        rows(x, 4, 4, 3, 3);
        due("prove(3)", x.prove(3), 4);
        rows(x, 0, 0, 10, 7);
        due("prove(4)", x.prove(4), 4);
        rows(x, 0, 0, 0, 0);
        x.begin();
        due("prove(0) at 0", x.prove(0), 1);
        rows(x, 10);
        x.run(60);
        due("prove(0) at 60", x.prove(0), 61);
        due("row(60, 0)", x.row(60, 0), 60);
    }

    private static void theReader() {
        says("3", "THE READER takes ROWS: right is one whose step is that of the ROW ahead and 1 more (of the first 0), and no "
            + "more than now, and whose VALUE was that; if all are, but they end ahead of now: 222.");
        StoreStreams x = WORLD.get();
        due("all are right", x.judge(0), 0);
        for (int k = 0; k < 4; k++) {
            for (int v : new int[] {k - 1, k + 1, NO, MOST}) {
                x.alterRow(k, 0, v);
                due("ROW " + k + " with step " + v, x.judge(0), k + 1);
            }
            x.alterRow(k, 0, k);
            int was = x.row(k, 1);
            for (int v : new int[] {was - 1, was + 1, NO, MOST}) {
                x.alterRow(k, 1, v);
                due("ROW " + k + " with VALUE " + v, x.judge(0), k + 1);
            }
            x.alterRow(k, 1, was);
            due("all are right again", x.judge(0), 0);
        }
        x.run(1);
        due("they end ahead of now", x.judge(0), 222);
        x.alterRow(3, 1, 9);
        due("a wrong one, and they end ahead of now", x.judge(0), 4);
        x.alterRow(3, 1, 2);
        x.begin();
        due("a step that is more than now", x.judge(0), 2);
        x.alterRow(1, 1, 10);
        x.alterRow(1, 0, 0);
        due("the first step once more", x.judge(0), 2);
    }

    private static void prove() {
        says("Promise 25", "ROWS of a THING: how many.");
        StoreStreams x = with(numbers(16));
        due("prove(15) at 0", x.prove(15), 1);
        due("many(3)", x.many(3), 1);
        x.run(60);
        due("prove(0) at 60", x.prove(0), 61);
        due("many(3)", x.many(3), 61);
        x.begin();
        due("many(3): the ROWS stay", x.many(3), 61);
        due("prove(0): fewer ROWS", x.prove(0), 1);
        due("many(3)", x.many(3), 1);
        due("row(1, 0): those ahead are gone", x.row(1, 0), NO);
    }

    private static void proveBad() {
        says("Promise 25", "BAD.");
        for (int i : new int[] {-1, 7, 16, NO, MOST}) refused(WORLD, "prove(" + i + ")", x -> x.prove(i), BAD);
        due("prove(16) of 16", with(numbers(16)).prove(16), BAD);
    }

    private static void row() {
        says("Promise 26", "Of ROW i: what = 0 the step, 1 the VALUE.");
        StoreStreams x = WORLD.get();
        rows(x, 10, 7, 4, 2);
        x.begin();
        rows(x, 10, 7, 4, 2);
        StoreStreams y = with("store a=0;stream f from out to a=1;");
        y.run(60);
        y.prove(0);
        due("row(60, 0)", y.row(60, 0), 60);
        due("row(60, 1)", y.row(60, 1), 60);
        due("row(0, 1)", y.row(0, 1), 0);
    }

    private static void rowNo() {
        says("Promise 26", "NO: there is none such, another what.");
        for (int i : new int[] {-1, 4, 5, 60, 61, NO, MOST}) {
            for (int what = 0; what <= 1; what++) {
                int asked = what;
                refused(WORLD, "row(" + i + ", " + what + ")", x -> x.row(i, asked), NO);
            }
        }
        for (int what : new int[] {-1, 2, NO, MOST}) {
            refused(WORLD, "row(0, " + what + ")", x -> x.row(0, what), NO);
            refused(WORLD, "row(3, " + what + ")", x -> x.row(3, what), NO);
        }
        due("row(0, 0) of none", with("store a=1;").row(0, 0), NO);
        StoreStreams x = with("store a=1;");
        x.run(60);
        x.prove(0);
        due("row(61, 0) of 61", x.row(61, 0), NO);
    }

    private static void alterRow() {
        says("Promise 27", "It becomes v: what it was.");
        StoreStreams x = WORLD.get();
        due("alterRow(0, 0, MOST)", x.alterRow(0, 0, MOST), 0);
        due("alterRow(0, 0, NO)", x.alterRow(0, 0, NO), MOST);
        due("row(0, 0)", x.row(0, 0), NO);
        due("row(0, 1)", x.row(0, 1), 10);
        due("alterRow(2, 1, 4)", x.alterRow(2, 1, 4), 4);
        due("alterRow(1, 1, 7)", x.alterRow(1, 1, 7), 7);
        due("alterRow(3, 1, -8)", x.alterRow(3, 1, -8), 2);
        due("row(3, 1)", x.row(3, 1), -8);
        due("row(3, 0)", x.row(3, 0), 3);
        due("row(2, 1)", x.row(2, 1), 4);
        due("at(0, 3): the world stays", x.at(0, 3), 2);
        due("value(0): the world stays", x.value(0), 2);
        StoreStreams y = with("store a=5;");
        y.run(60);
        y.prove(0);
        due("alterRow(60, 1, 6)", y.alterRow(60, 1, 6), 5);
        due("judge(0)", y.judge(0), 61);
        due("prove(0) makes them new", y.prove(0), 61);
        due("row(60, 1)", y.row(60, 1), 5);
    }

    private static void alterRowNo() {
        says("Promise 27", "NO likewise.");
        for (int i : new int[] {-1, 4, 5, 60, 61, NO, MOST}) {
            for (int what = 0; what <= 1; what++) {
                int asked = what;
                refused(WORLD, "alterRow(" + i + ", " + what + ", 5)", x -> x.alterRow(i, asked, 5), NO);
            }
        }
        for (int what : new int[] {-1, 2, NO, MOST}) {
            refused(WORLD, "alterRow(0, " + what + ", 5)", x -> x.alterRow(0, what, 5), NO);
            refused(WORLD, "alterRow(3, " + what + ", 5)", x -> x.alterRow(3, what, 5), NO);
        }
        due("alterRow(0, 0, 5) of none", with("store a=1;").alterRow(0, 0, 5), NO);
    }

    private static void judge() {
        says("Promise 28", "THE READER takes ROWS as those of a THING: 0 all is right; else the first ROW that isn't, and 1 more; "
            + "222: they end ahead of now (none, too).");
        StoreStreams x = WORLD.get();
        due("judge(0)", x.judge(0), 0);
        due("judge(1)", x.judge(1), 1);
        due("judge(5): 9 in place of 10", x.judge(5), 1);
        x.alterRow(2, 1, 5);
        x.alterRow(3, 1, 5);
        due("the first that isn't right", x.judge(0), 3);
        StoreStreams none = with("store a=1;");
        due("none at step 0", none.judge(0), 222);
        none.run(60);
        due("none at step 60", none.judge(0), 222);
        none.prove(0);
        due("all 61", none.judge(0), 0);
        none.alterRow(60, 0, 61);
        due("the 61st", none.judge(0), 61);
        none.begin();
        none.prove(0);
        due("one at step 0", none.judge(0), 0);
        none.run(1);
        due("one at step 1", none.judge(0), 222);
        StoreStreams same = with("store a=5;number b=5;");
        same.run(3);
        same.prove(0);
        due("the same VALUES of another THING", same.judge(1), 0);
    }

    private static void judgeBad() {
        says("Promise 28", "BAD.");
        for (int i : new int[] {-1, 7, 16, NO, MOST}) refused(WORLD, "judge(" + i + ")", x -> x.judge(i), BAD);
        due("judge(0) without THINGS", new StoreStreams().judge(0), BAD);
        due("judge(16) of 16", with(numbers(16)).judge(16), BAD);
    }
}
