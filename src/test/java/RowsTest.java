/** Promises 25 to 28: prove, row, alterRow, judge. */
public final class RowsTest {
    private static final int NO = StoreStreams.NO;
    private static final int[] OUTSIDE = {-1, 61, NO, Integer.MAX_VALUE};

    public static void main(String[] args) {
        proving();
        telling();
        altering();
        judging();
        judgingAltered();
        Check.end("RowsTest");
    }

    private static StoreStreams atStep3() {
        StoreStreams x = Check.with("store a=10;number n=4;stream f from a to out=n;");
        x.run(2);
        x.change(1, 1);
        x.run(1);
        return x;
    }

    /** Promise 25. */
    private static void proving() {
        StoreStreams x = atStep3();
        Check.due("many(3)", x.many(3), 0);
        Check.due("prove(0)", x.prove(0), 4);
        Check.due("many(3)", x.many(3), 4);
        for (int i : new int[] {3, -1, NO, Integer.MAX_VALUE}) {
            Check.due("prove(" + i + ")", x.prove(i), StoreStreams.BAD);
        }
        Check.due("row(1, 1): the ROWS stay", x.row(1, 1), 6);
        Check.due("prove(1)", x.prove(1), 4);
        Check.due("row(1, 1)", x.row(1, 1), 4);
        x.begin();
        Check.due("many(3): the ROWS stay", x.many(3), 4);
        Check.due("prove(1) at 0", x.prove(1), 1);
        Check.due("many(3)", x.many(3), 1);
        x.run(60);
        Check.due("prove(0) at 60", x.prove(0), 61);
        Check.due("row(60, 0)", x.row(60, 0), 60);
        Check.due("row(60, 1)", x.row(60, 1), 0);
        Check.due("judge(0)", x.judge(0), 0);
    }

    /** Promise 26. */
    private static void telling() {
        StoreStreams x = atStep3();
        Check.due("row(0, 0) of none", x.row(0, 0), NO);
        x.prove(0);
        int[] a = {10, 6, 2, 1};
        for (int k = 0; k <= 3; k++) {
            Check.due("row(" + k + ", 0)", x.row(k, 0), k);
            Check.due("row(" + k + ", 1)", x.row(k, 1), a[k]);
        }
        Check.due("row(4, 0)", x.row(4, 0), NO);
        for (int i : OUTSIDE) Check.due("row(" + i + ", 0)", x.row(i, 0), NO);
        for (int what : new int[] {-1, 2, NO, Integer.MAX_VALUE}) Check.due("row(0, " + what + ")", x.row(0, what), NO);
        x.change(1, 7);
        x.prove(1);
        Check.due("row(3, 1), as it is now", x.row(3, 1), 7);
    }

    /** Promise 27. */
    private static void altering() {
        StoreStreams x = atStep3();
        Check.due("alterRow(0, 0, 1) of none", x.alterRow(0, 0, 1), NO);
        x.prove(0);
        Check.due("alterRow(2, 1, -8)", x.alterRow(2, 1, -8), 2);
        Check.due("row(2, 1)", x.row(2, 1), -8);
        Check.due("alterRow(2, 1, 5)", x.alterRow(2, 1, 5), -8);
        Check.due("alterRow(3, 0, least)", x.alterRow(3, 0, NO), 3);
        Check.due("row(3, 0)", x.row(3, 0), NO);
        Check.due("row(3, 1)", x.row(3, 1), 1);
        Check.due("row(2, 0)", x.row(2, 0), 2);
        Check.due("alterRow(4, 0, 1)", x.alterRow(4, 0, 1), NO);
        for (int i : OUTSIDE) Check.due("alterRow(" + i + ", 0, 1)", x.alterRow(i, 0, 1), NO);
        for (int what : new int[] {-1, 2, NO, Integer.MAX_VALUE}) {
            Check.due("alterRow(0, " + what + ", 1)", x.alterRow(0, what, 1), NO);
        }
        Check.due("row(0, 0)", x.row(0, 0), 0);
        Check.due("row(0, 1)", x.row(0, 1), 10);
        Check.due("value(0): the world stays", x.value(0), 1);
        Check.due("at(0, 2): the world stays", x.at(0, 2), 2);
    }

    /** Promise 28. */
    private static void judging() {
        StoreStreams x = atStep3();
        Check.due("judge(0) of none", x.judge(0), 222);
        Check.due("prove(0)", x.prove(0), 4);
        Check.due("judge(0)", x.judge(0), 0);
        Check.due("judge(1)", x.judge(1), 1);
        for (int i : new int[] {3, -1, NO, Integer.MAX_VALUE}) {
            Check.due("judge(" + i + ")", x.judge(i), StoreStreams.BAD);
        }
        x.run(1);
        Check.due("judge(0) a step on", x.judge(0), 222);
        x.begin();
        Check.due("judge(0) at 0: there was no step 1", x.judge(0), 2);
        x.run(3);
        Check.due("judge(0) of another run", x.judge(0), 4);
        x.begin();
        x.run(2);
        x.change(1, 1);
        x.run(1);
        Check.due("judge(0) of the same run", x.judge(0), 0);
        x.prove(1);
        x.change(1, 2);
        Check.due("judge(1), the latest VALUE was changed", x.judge(1), 4);
        Check.read(x, "store a=10;");
        Check.due("judge(0): read() takes ROWS away", x.judge(0), 222);
        StoreStreams y = new StoreStreams();
        Check.due("judge(0) of no THING", y.judge(0), StoreStreams.BAD);
    }

    private static void judgingAltered() {
        StoreStreams x = atStep3();
        x.prove(0);
        x.alterRow(0, 0, 1);
        Check.due("judge(0), first step not 0", x.judge(0), 1);
        x.alterRow(0, 0, 0);
        x.alterRow(2, 0, 3);
        Check.due("judge(0), a step left out", x.judge(0), 3);
        x.alterRow(2, 0, 1);
        Check.due("judge(0), a step twice", x.judge(0), 3);
        x.alterRow(2, 0, NO);
        Check.due("judge(0), a step below 0", x.judge(0), 3);
        x.alterRow(2, 0, 2);
        Check.due("judge(0)", x.judge(0), 0);
        x.alterRow(3, 1, 2);
        Check.due("judge(0), the last VALUE", x.judge(0), 4);
        x.alterRow(1, 1, 2);
        Check.due("judge(0), the first that isn't right", x.judge(0), 2);
    }
}
