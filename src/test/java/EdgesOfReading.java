/** The edges that promises 1 to 6 name: a new object, feed, read, fault, named, thing. */
final class EdgesOfReading extends Edges {
    private EdgesOfReading() {
    }

    static void all() {
        newObject();
        fedBytes();
        fedWrong();
        readRight();
        readWrong();
        faultTold();
        faultBad();
        named();
        namedNone();
        thingTold();
        thingBad();
    }

    private static void newObject() {
        says("Promise 1", "No THINGS; step 0.");
        StoreStreams x = new StoreStreams();
        for (int what = 0; what <= 5; what++) due("many(" + what + ")", x.many(what), 0);
        due("thing(0, 0)", x.thing(0, 0), BAD);
        due("value(0)", x.value(0), NO);
        due("at(0, 0)", x.at(0, 0), NO);
        due("flow(0, 0)", x.flow(0, 0), BAD);
        due("change(0, 1)", x.change(0, 1), NO);
        due("event(1, 0, 1)", x.event(1, 0, 1), BAD);
        due("moves(0)", x.moves(0), BAD);
        due("reached(0)", x.reached(0), BAD);
        due("rings()", x.rings(), 0);
        due("ring(0, -1)", x.ring(0, -1), NONE);
        due("prove(0)", x.prove(0), BAD);
        due("judge(0)", x.judge(0), BAD);
        due("shelf(0, 0, 0)", x.shelf(0, 0, 0), BAD);
        due("named(0)", x.named(0), NONE);
        for (int what = 0; what <= 3; what++) due("sum(" + what + ")", x.sum(what), 0);
        for (int what = 0; what <= 1; what++) due("fault(" + what + ")", x.fault(what), 0);
        due("begin()", x.begin(), 0);
        due("run(60)", x.run(60), 60);
        due("begin()", x.begin(), 60);
    }

    private static void fedBytes() {
        says("Promise 2", "n bytes (1 to 8) come to THE TAPE, the lowest of eight first: how many it has.");
        StoreStreams x = new StoreStreams();
        int has = 0;
        for (int n = 1; n <= 8; n++) {
            has += n;
            due("feed of " + n, x.feed(0x2020202020202020L, n), has);
        }
        due("many(4)", x.many(4), 36);
        due("read() of blanks", x.read(), 0);
        due("feed of number_n", x.feed(0x6e207265626d756eL, 8), 8);
        due("feed of =7; alone", x.feed(0xff3b3b3b3b3b373dL, 3), 11);
        due("read()", x.read(), 1);
        due("value(0)", x.value(0), 7);
        String text = "number n=8;";
        for (int k = 0; k < text.length(); k++) due("feed of 1", x.feed(0xabcdef00L | text.charAt(k), 1), k + 1);
        due("read() of bytes one by one", x.read(), 1);
        due("value(0)", x.value(0), 8);
        due("feed of eight with the highest bit", x.feed(0x8020202020202020L, 8), 8);
        due("read()", x.read(), -101);
        due("fault(1): the highest byte is the last", x.fault(1), 7);
    }

    private static StoreStreams fed(int bytes) {
        StoreStreams x = new StoreStreams();
        Check.feed(x, " ".repeat(bytes));
        return x;
    }

    private static void fedWrong() {
        says("Promise 2", "BAD; FULL: more than 300.");
        for (int n : new int[] {0, 9, -1, -8, 300, NO, MOST}) refused(WORLD, "feed(.., " + n + ")", x -> x.feed(1, n), BAD);
        for (int n = 1; n <= 8; n++) {
            due("feed of " + n + " up to 300", fed(300 - n).feed(0, n), 300);
            due("feed of " + n + " up to 301", fed(301 - n).feed(0, n), FULL);
        }
        refused(() -> fed(300), "feed of one more", x -> x.feed(';', 1), FULL);
        refused(() -> fed(293), "feed of eight, one too many", x -> x.feed(';', 8), FULL);
        due("feed that is FULL, then one that is not", fed(293).feed(0, 7), 300);
    }

    private static void readRight() {
        says("Promise 3", "THE TAPE is the text: how many THINGS; EVENTS, ROWS are none then, and all begins.");
        StoreStreams x = WORLD.get();
        due("many(2)", x.many(2), 1);
        due("many(3)", x.many(3), 4);
        due("read()", x.read(), 1);
        due("many(0)", x.many(0), 1);
        due("many(1)", x.many(1), 0);
        due("many(2)", x.many(2), 0);
        due("many(3)", x.many(3), 0);
        due("many(4)", x.many(4), 0);
        due("row(0, 0)", x.row(0, 0), NO);
        due("judge(0)", x.judge(0), 222);
        for (int what = 1; what <= 3; what++) due("sum(" + what + ")", x.sum(what), 0);
        due("at(0, 1)", x.at(0, 1), NO);
        due("value(0)", x.value(0), 1);
        due("read() of an empty TAPE", x.read(), 0);
        due("many(0)", x.many(0), 0);
        due("sum(0)", x.sum(0), 0);
        due("read() of 16", Check.read(x, numbers(16)), 16);
        x.run(7);
        x.change(3, 9);
        due("read() of the same once more", Check.read(x, numbers(16)), 16);
        due("many(1)", x.many(1), 0);
        due("value(3)", x.value(3), 1);
        for (int k = 0; k < 6; k++) due("event", x.event(60, 0, 1), k);
        due("read()", Check.read(x, "number a=1;store b=1;"), 2);
        due("event: they are none then", x.event(60, 0, 1), 0);
        nothingOfTextsAhead();
    }

    /** An object reads text upon text; each is as in an object of its own. */
    private static void nothingOfTextsAhead() {
        String longest = "helper h=" + "1+".repeat(144) + "1; ";
        String[] texts = {"helper h=-1;", "helper h=-1;", "helper h=5;helper i=6;", "helper h=5;helper i=6;",
            "number p=77;store q=9;stream r from q to q=q;stream s from q to out=p;", "table t=0:5,1:6,2:7;helper h=t[1];",
            longest, longest, longest, longest, longest, "table t=0:1,1:2;store a=4;",
            "delay d=2 of 7;number n=3;", "store a=1;number n=3;stream f from out to a=n;delay d=2 of a;", numbers(16)};
        StoreStreams x = new StoreStreams();
        for (String text : texts) {
            StoreStreams alone = with(text);
            due("read() of " + text, Check.read(x, text), alone.many(0));
            int count = Math.min(4, alone.many(0));
            for (int i = 0; i < count; i++) {
                due("value(" + i + ") in " + text, x.value(i), alone.value(i));
                due("moves(" + i + ") in " + text, x.moves(i), alone.moves(i));
            }
            x.run(3);
            alone.run(3);
            for (int i = 0; i < count; i++) due("value(" + i + ") at 3 in " + text, x.value(i), alone.value(i));
            due("sum(3) in " + text, x.sum(3), alone.sum(3));
        }
    }

    private static void readWrong() {
        says("Promise 3", "-100 less the kind of its FAULT: all but THE TAPE and fault() stays.");
        String[] texts = {"store y=1;store", "store y=1;store y=2;", "number y=1;stream s from y to out=1;", "?",
            numbers(16) + "number z=1;"};
        int[] kinds = {1, 2, 3, 1, 1};
        for (int k = 0; k < texts.length; k++) {
            String text = texts[k];
            StoreStreams x = WORLD.get();
            x.read();
            due("read() of " + text, Check.read(x, text), -100 - kinds[k]);
            due("many(0)", x.many(0), 1);
            due("named(z)", x.named(26), 0);
            due("named(y)", x.named(25), NONE);
        }
        refusedRead("?", -101);
        refusedRead("store z=1;", -102);
        refusedRead("number y=1;stream s from y to out=1;", -103);
    }

    /** A read() with a FAULT: all but THE TAPE and fault() is as in a world with the same THE TAPE and fault(). */
    private static void refusedRead(String behind, int want) {
        // ROWS, EVENTS, steps and what is kept are of the world; "store z=1;" is on its tape already.
        StoreStreams x = WORLD.get();
        Check.feed(x, behind);
        due("read()", x.read(), want);
        due("many(0)", x.many(0), 7);
        due("many(1)", x.many(1), 3);
        due("many(2)", x.many(2), 1);
        due("many(3)", x.many(3), 4);
        due("many(4)", x.many(4), 0);
        due("many(5)", x.many(5), 3);
        values(x, 0, 10, 7, 4, 2);
        due("value(1)", x.value(1), 3);
        due("judge(0)", x.judge(0), 0);
        due("sum(3)", x.sum(3), 11);
        due("item(0, 2, 0)", x.item(0, 2, 0), 9);
        due("taken(0, 5)", x.taken(0, 5), 1);
        due("trace(0)", x.trace(0), 11);
        x.run(2);
        due("value(1): the EVENT of step 5", x.value(1), 2);
        due("back()", x.back(), 2);
        due("value(0)", x.value(0), 4);
    }

    private static void faultTold() {
        says("Promise 4", "Of the latest read(): what = 0 the kind (0: none), 1 the place of THE FAULT (its first byte, from 0; "
            + "the end: how many bytes there are; 0: none).");
        StoreStreams x = new StoreStreams();
        due("fault(0) ahead of any read()", x.fault(0), 0);
        due("fault(1) ahead of any read()", x.fault(1), 0);
        String[] texts = {"?", "store a=1;store a=2;", "number a=1;stream s from a to out=1;", "store abcdefgh=1;", "store a=",
            " ".repeat(299) + "?", "store a=1;" + " ".repeat(289) + ";", "store a=1" + " ".repeat(291), ""};
        int[] kinds = {1, 2, 3, 1, 1, 1, 1, 1, 0};
        int[] places = {0, 16, 25, 6, 8, 299, 299, 300, 0};
        for (int k = 0; k < texts.length; k++) {
            Check.read(x, texts[k]);
            due("fault(0) of " + texts[k], x.fault(0), kinds[k]);
            due("fault(1) of " + texts[k], x.fault(1), places[k]);
        }
        Check.read(x, "store a=1;?");
        Check.feed(x, "store b=1;");
        due("fault(1) behind feed()", x.fault(1), 10);
        x.read();
        due("fault(0) behind a read() without one", x.fault(0), 0);
        due("fault(1) behind a read() without one", x.fault(1), 0);
    }

    private static void faultBad() {
        says("Promise 4", "BAD.");
        for (int what : new int[] {-1, 2, 3, NO, MOST}) {
            refused(WORLD, "fault(" + what + ")", x -> x.fault(what), BAD);
            due("fault(" + what + ") of a new one", new StoreStreams().fault(what), BAD);
        }
    }

    private static void named() {
        says("Promise 5", "The THING with a NAME, told by digits to the base 27 (a 1, z 26), the first letter the highest.");
        StoreStreams x = with("store a=1;number z=1;helper ab=1;table ba=0:0,1:1;delay aaaaa=1 of 1;"
            + "stream zzzzz from out to out=1;store azbyc=1;");
        due("named(a)", x.named(1), 0);
        due("named(z)", x.named(26), 1);
        due("named(ab)", x.named(27 + 2), 2);
        due("named(ba)", x.named(2 * 27 + 1), 3);
        due("named(aaaaa)", x.named(531441 + 19683 + 729 + 27 + 1), 4);
        due("named(zzzzz)", x.named(14348906), 5);
        due("named(azbyc)", x.named((((1 * 27 + 26) * 27 + 2) * 27 + 25) * 27 + 3), 6);
    }

    private static void namedNone() {
        says("Promise 5", "NONE.");
        for (int name : new int[] {0, -1, 2, 27, 26 * 27, 54, 703, 14348907, 14348906 + 1, NO, MOST}) {
            refused(WORLD, "named(" + name + ")", x -> x.named(name), NONE);
        }
        StoreStreams x = WORLD.get();
        due("named(a)", x.named(1), 0);
        x.read();
        due("named(a): of an earlier text", x.named(1), NONE);
        Check.read(x, "store a=1;?");
        due("named(a): of a text with a FAULT", x.named(1), NONE);
    }

    private static void thingTold() {
        says("Promise 6", "Of a THING: what = 0 its kind (1 STORE, 2 DELAY, 3 STREAM, 4 TABLE, 5 NUMBER, 6 HELPER), 1 its NAME "
            + "(as in named()), 2 where a STREAM is from, 3 to (-9: out; of others -9, too).");
        StoreStreams x = with("store a=1;delay b=1 of 1;stream zzzzz from a to out=1;table d=0:0,1:1;number e=1;helper f=1;"
            + "store g=1;stream h from out to g=1;stream i from g to a=1;stream j from out to out=1;");
        int[][] due = {{1, 1, -9, -9}, {2, 2, -9, -9}, {3, 14348906, 0, -9}, {4, 4, -9, -9}, {5, 5, -9, -9}, {6, 6, -9, -9},
            {1, 7, -9, -9}, {3, 8, -9, 6}, {3, 9, 6, 0}, {3, 10, -9, -9}};
        for (int i = 0; i < due.length; i++) {
            for (int what = 0; what <= 3; what++) {
                due("thing(" + i + ", " + what + ")", x.thing(i, what), due[i][what]);
            }
        }
        StoreStreams last = with(numbers(14) + "store y=1;stream z from y to out=1;");
        due("thing(15, 2)", last.thing(15, 2), 14);
        due("thing(15, 1)", last.thing(15, 1), 26);
    }

    private static void thingBad() {
        says("Promise 6", "BAD.");
        for (int i : new int[] {-1, 7, 15, 16, NO, MOST}) {
            for (int what = 0; what <= 3; what++) due("thing(" + i + ")", WORLD.get().thing(i, what), BAD);
            refused(WORLD, "thing(" + i + ", 0)", x -> x.thing(i, 0), BAD);
        }
        for (int what : new int[] {-1, 4, NO, MOST}) {
            for (int i = 0; i < 7; i++) due("thing(" + i + ", " + what + ")", WORLD.get().thing(i, what), BAD);
            refused(WORLD, "thing(2, " + what + ")", x -> x.thing(2, what), BAD);
        }
        due("thing(16, 0) of 16", with(numbers(16)).thing(16, 0), BAD);
    }
}
