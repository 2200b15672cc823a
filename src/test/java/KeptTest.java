/** Promises 37 and 38: keep, back. */
public final class KeptTest {
    public static void main(String[] args) {
        nothingKept();
        aWorld();
        anotherText();
        whatStays();
        keptAgain();
        Check.end("KeptTest");
    }

    private static final String TEXT = "store a=10;number n=4;stream f from a to out=n;delay d=2 of a;"
        + "stream g from out to a=1;";

    private static void nothingKept() {
        StoreStreams x = Check.with(TEXT);
        Check.due("back()", x.back(), StoreStreams.NONE);
        Check.due("many(0)", x.many(0), 5);
        StoreStreams y = new StoreStreams();
        Check.due("keep() of no text", y.keep(), 1);
        Check.read(y, TEXT);
        y.run(3);
        Check.due("back()", y.back(), 0);
        Check.due("many(0)", y.many(0), 0);
        Check.due("rings()", y.rings(), 0);
        Check.due("value(0)", y.value(0), StoreStreams.NO);
    }

    private static StoreStreams kept() {
        StoreStreams x = Check.with(TEXT);
        x.event(4, 1, 2);
        x.run(2);
        x.change(1, 3);
        Check.due("keep()", x.keep(), 1);
        return x;
    }

    /** a: 10, 7, 4 and, with n 3, 2, and 1 (3 are asked of 2). */
    private static void isAsKept(StoreStreams x) {
        Check.due("many(0)", x.many(0), 5);
        Check.due("many(1)", x.many(1), 2);
        Check.due("many(2)", x.many(2), 1);
        Check.due("named(d)", x.named(Check.name("d")), 3);
        Check.due("thing(2, 2)", x.thing(2, 2), 0);
        Check.due("value(0)", x.value(0), 4);
        Check.due("value(1)", x.value(1), 3);
        Check.due("value(3)", x.value(3), 10);
        Check.due("at(0, 0)", x.at(0, 0), 10);
        Check.due("at(0, 1)", x.at(0, 1), 7);
        Check.due("at(0, 3)", x.at(0, 3), StoreStreams.NO);
        Check.due("at(1, 1)", x.at(1, 1), 4);
        Check.due("flow(2, 0)", x.flow(2, 0), 3);
        Check.due("sum(2)", x.sum(2), 2);
        Check.due("sum(3)", x.sum(3), 8);
        Check.due("moves(0)", x.moves(0), 8);
        Check.due("moves(1)", x.moves(1), 4);
    }

    private static void aWorld() {
        StoreStreams x = kept();
        isAsKept(x);
        x.run(2);
        Check.due("value(0)", x.value(0), 1);
        Check.due("value(1)", x.value(1), 2);
        x.event(9, 1, 5);
        x.change(1, 8);
        Check.due("back()", x.back(), 2);
        isAsKept(x);
        x.run(1);
        Check.due("value(3)", x.value(3), 7);
        x.begin();
        x.run(60);
        Check.due("back() once more", x.back(), 2);
        isAsKept(x);
        x.run(2);
        Check.due("value(0)", x.value(0), 1);
        Check.due("value(1)", x.value(1), 2);
        Check.due("value(3)", x.value(3), 4);
        Check.due("at(0, 2)", x.at(0, 2), 4);
    }

    private static void anotherText() {
        StoreStreams x = kept();
        Check.read(x, "table t=0:0,9:9;store b=3;stream g from b to out=t[b];");
        x.run(5);
        Check.due("rings()", x.rings(), 1);
        Check.due("back()", x.back(), 2);
        isAsKept(x);
        Check.due("rings()", x.rings(), 0);
        Check.due("named(b)", x.named(Check.name("b")), StoreStreams.NONE);
        Check.due("run(1)", x.run(1), 3);
        Check.due("value(0)", x.value(0), 2);
        Check.due("begin()", x.begin(), 3);
        Check.due("value(1)", x.value(1), 4);
        Check.read(x, "number z=1;");
        Check.due("back() from a third text", x.back(), 2);
        isAsKept(x);
        wholeText();
    }

    /** All parts of a text come back, from among texts that have other parts at the same numbers. */
    private static void wholeText() {
        String first = "table t=0:3,10:13,20:113;store a=7;stream f from a to a=t[a]-9;stream g from out to a=t[a*2]+a;"
            + "delay d=2 of least(a,-a)*2;helper h=t[t[4]]<9;";
        String other = "table r=5:50,6:60;helper p=5*5-4;helper q=p*(p+1)/3;store s=1;stream t from s to out=q+r[6];"
            + "delay u=9 of p;stream v from s to s=1;";
        StoreStreams x = Check.with(first);
        StoreStreams y = Check.with(first);
        x.keep();
        for (int k = 0; k < 3; k++) Check.read(x, other);
        x.run(9);
        x.back();
        for (int step = 0; step <= 8; step++) {
            for (int i = 0; i < 6; i++) {
                Check.due("value(" + i + ") at " + step, x.value(i), y.value(i));
                Check.due("moves(" + i + ")", x.moves(i), y.moves(i));
                for (int what = 0; what <= 3; what++) Check.due("thing(" + i + ")", x.thing(i, what), y.thing(i, what));
            }
            x.run(1);
            y.run(1);
        }
        Check.due("rings()", x.rings(), y.rings());
        Check.due("rings()", x.rings(), 2);
    }

    /** What is not kept stays as it is at back(). */
    private static void whatStays() {
        StoreStreams x = kept();
        x.run(2);
        x.prove(0);
        x.sheet(1, 2, 3);
        x.put(1, 0, 77);
        x.shelf(0, 1, 1);
        x.shelf(1, 0, 4);
        x.act(1, 1, 3);
        Check.read(x, "?");
        x.feed(0L, 5);
        Check.due("back()", x.back(), 2);
        Check.due("ROWS", x.many(3), 5);
        Check.due("row(4, 1)", x.row(4, 1), 1);
        Check.due("judge(0): there are no steps 3 and 4 now", x.judge(0), 4);
        Check.due("THE TAPE", x.many(4), 5);
        Check.due("fault(0)", x.fault(0), 1);
        Check.due("SHEETS", x.item(1, 2, 0), 77);
        Check.due("SHELVES", x.taken(0, 12), 3);
        Check.due("SHELVES", x.taken(1, 3), 4);
        Check.due("THE TRACE", x.many(5), 2);
        Check.due("trace(1)", x.trace(1), 10);
    }

    private static void keptAgain() {
        StoreStreams x = kept();
        x.run(1);
        Check.due("keep()", x.keep(), 1);
        x.begin();
        Check.due("back() to the latest", x.back(), 3);
        Check.due("value(0)", x.value(0), 2);
        Check.read(x, "number z=6;");
        Check.due("keep()", x.keep(), 1);
        x.change(0, 9);
        Check.due("back()", x.back(), 0);
        Check.due("many(0)", x.many(0), 1);
        Check.due("value(0)", x.value(0), 6);
    }
}
