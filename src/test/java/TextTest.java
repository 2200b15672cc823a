/** Promises 1 to 6: a new object, feed, read, fault, named, thing; and section 1 of the terms. */
public final class TextTest {
    public static void main(String[] args) {
        newObject();
        feeding();
        reading();
        wholeTexts();
        faultsOfThings();
        faultsOfEnds();
        faultsOfTables();
        faultsOfE();
        faultsOfOpenOnes();
        faultAnswers();
        naming();
        telling();
        Check.end("TextTest");
    }

    /** Promise 1. */
    private static void newObject() {
        StoreStreams x = new StoreStreams();
        for (int what = 0; what <= 5; what++) Check.due("new: many(" + what + ")", x.many(what), 0);
        Check.due("new: fault(0)", x.fault(0), 0);
        Check.due("new: fault(1)", x.fault(1), 0);
        Check.due("new: named(1)", x.named(1), StoreStreams.NONE);
        Check.due("new: thing(0, 0)", x.thing(0, 0), StoreStreams.BAD);
        Check.due("new: value(0)", x.value(0), StoreStreams.NO);
        Check.due("new: rings()", x.rings(), 0);
        for (int what = 0; what <= 3; what++) Check.due("new: sum(" + what + ")", x.sum(what), 0);
        Check.due("new: back()", x.back(), StoreStreams.NONE);
        Check.due("new: item(0, 0, 0)", x.item(0, 0, 0), -11);
        Check.due("new: taken(3, 0)", x.taken(3, 0), -11);
        Check.due("new: rest(0)", x.rest(0), 0);
        Check.due("new: run(2)", x.run(2), 2);
        Check.due("new: begin()", x.begin(), 2);
    }

    /** Promise 2. */
    private static void feeding() {
        StoreStreams x = new StoreStreams();
        for (int n : new int[] {0, 9, -1, Integer.MIN_VALUE, Integer.MAX_VALUE}) {
            Check.due("feed(0, " + n + ")", x.feed(0L, n), StoreStreams.BAD);
        }
        Check.due("many(4)", x.many(4), 0);
        // "number n", then "=7;" with bytes behind it that must not come
        Check.due("feed", x.feed(0x6e207265626d756eL, 8), 8);
        Check.due("feed", x.feed(0xffffffffff3b373dL, 3), 11);
        Check.due("many(4)", x.many(4), 11);
        Check.due("read()", x.read(), 1);
        Check.due("value(0)", x.value(0), 7);
        Check.due("many(4)", x.many(4), 0);
        for (int k = 1; k <= 37; k++) Check.due("feed", x.feed(0x2020202020202020L, 8), 8 * k);
        Check.due("feed of 5 to 296", x.feed(0L, 5), StoreStreams.FULL);
        Check.due("feed of 0 to 296", x.feed(0L, 0), StoreStreams.BAD);
        Check.due("feed of 4 to 296", x.feed(0x20202020L, 4), 300);
        Check.due("feed of 1 to 300", x.feed(0L, 1), StoreStreams.FULL);
        Check.due("many(4)", x.many(4), 300);
        Check.due("read() of 300 blanks", x.read(), 0);
        Check.due("feed of a byte above 127", x.feed(-1L, 1), 1);
        Check.due("read() of it", x.read(), -101);
    }

    /** Promise 3: what read() makes new and what it leaves. */
    private static void reading() {
        StoreStreams x = Check.with("store a=5;number n=3;stream s from out to a=n;");
        x.run(4);
        x.change(1, 8);
        x.event(9, 1, 2);
        x.prove(0);
        x.sheet(1, 0, 3);
        x.shelf(2, 1, 1);
        x.shelf(1, 0, 1);
        x.act(1, 1, 3);
        Check.due("read() with a FAULT", Check.read(x, "store b=5;store b=6;"), -102);
        Check.due("many(0)", x.many(0), 3);
        Check.due("many(1)", x.many(1), 4);
        Check.due("many(2)", x.many(2), 1);
        Check.due("many(3)", x.many(3), 5);
        Check.due("many(4)", x.many(4), 0);
        Check.due("value(0)", x.value(0), 17);
        Check.due("value(1)", x.value(1), 8);
        Check.due("named(b)", x.named(Check.name("b")), StoreStreams.NONE);
        Check.due("fault(0)", x.fault(0), 2);
        Check.due("read()", Check.read(x, "store c=6;number d=1;"), 2);
        Check.due("fault(0)", x.fault(0), 0);
        Check.due("fault(1)", x.fault(1), 0);
        Check.due("many(1)", x.many(1), 0);
        Check.due("many(2)", x.many(2), 0);
        Check.due("many(3)", x.many(3), 0);
        Check.due("sum(2)", x.sum(2), 0);
        Check.due("value(0)", x.value(0), 6);
        Check.due("moves(1)", x.moves(1), 0);
        Check.due("taken(2, 10): SHELVES stay", x.taken(2, 10), 3);
        Check.due("item(1, 0, 0): SHEETS stay", x.item(1, 0, 0), 0);
        Check.due("many(5): THE TRACE stays", x.many(5), 3);
        Check.due("read() of no bytes", x.read(), 0);
        Check.due("many(0)", x.many(0), 0);
        nothingOfTheTextAhead();
    }

    /** A text that is read has nothing of those ahead of it. */
    private static void nothingOfTheTextAhead() {
        StoreStreams x = new StoreStreams();
        for (int k = 0; k < 3; k++) Check.read(x, "number p=77;store q=9;stream r from q to q=q;stream s from q to out=3;");
        x.run(2);
        Check.due("rings()", x.rings(), 1);
        Check.due("read()", Check.read(x, "table t=0:5,1:6;"), 1);
        Check.due("value(0) of the TABLE", x.value(0), 0);
        Check.due("sum(0)", x.sum(0), 0);
        Check.due("sum(3)", x.sum(3), 0);
        Check.due("rings()", x.rings(), 0);
        Check.due("moves(0)", x.moves(0), 0);
        Check.due("reached(0)", x.reached(0), 0);
        Check.due("rest(9)", x.rest(9), 0);
        Check.due("run(3)", x.run(3), 3);
        Check.due("sum(0)", x.sum(0), 0);
        Check.due("sum(3)", x.sum(3), 0);
        Check.due("value(1)", x.value(1), StoreStreams.NO);
        Check.due("named(q)", x.named(Check.name("q")), StoreStreams.NONE);
    }

    private static void right(String text) {
        StoreStreams x = Check.with(text);
        Check.due("fault(0) of " + text, x.fault(0), 0);
        Check.due("fault(1) of " + text, x.fault(1), 0);
    }

    private static void wrong(String text, int kind, int place) {
        StoreStreams x = new StoreStreams();
        Check.due("read() of " + text, Check.read(x, text), -100 - kind);
        Check.due("fault(0) of " + text, x.fault(0), kind);
        Check.due("fault(1) of " + text, x.fault(1), place);
    }

    private static void wholeTexts() {
        right("");
        right("   ");
        right("store abcde=99999;");
        right(" store   a  =  00001  ; ");
        right("store stor=1;store tto=1;store on=1;store o=1;");
        right("delay d=1of 1;delay e=9 of d;delay f=00009 of e;");
        right("store a=1;stream s from a to a=1;stream t from out to out=1;");
        right("table t=0:9,1:8;table u=0:0,1:1,2:2,3:3,4:4,99999:99999;helper h=t[u[3]];");
        right("helper h=1+2-3*4/5<6;helper i=h=h;helper j=(1<2)<(3=4);helper k=least(1<2,h=i);");
        StringBuilder sixteen = new StringBuilder();
        for (char c = 'a'; c < 'a' + 16; c++) sixteen.append("number ").append(c).append("=1;");
        right(sixteen.toString());
        right(sixteen + " ");
        wrong(sixteen + ";", 1, 176);
        wrong(sixteen + "number q=1;", 1, 176);
        wrong(sixteen + " q", 1, 177);
        String all300 = "helper h=" + "1+".repeat(144) + "1; ";
        Check.due("bytes", all300.length(), 300);
        StoreStreams x = Check.with(all300);
        Check.due("value(0) of 145 ones", x.value(0), 145);
        for (int k = 0; k < 9; k++) {
            Check.due("read() once more", Check.read(x, all300), 1);
            Check.due("value(0) of 145 ones", x.value(0), 145);
        }
    }

    private static void faultsOfThings() {
        wrong("store a=5", 1, 9);
        wrong("store a=5  ", 1, 11);
        wrong("store", 1, 5);
        wrong("store ", 1, 6);
        wrong("stores a=5;", 1, 0);
        wrong("storage a=5;", 1, 0);
        wrong("Store a=5;", 1, 0);
        wrong("from a=5;", 1, 0);
        wrong("a=5;", 1, 0);
        wrong("5;", 1, 0);
        wrong(";", 1, 0);
        wrong("store a=5;;", 1, 10);
        wrong("store A=5;", 1, 6);
        wrong("store =5;", 1, 6);
        wrong("store 5=5;", 1, 6);
        wrong("store abcdef=5;", 1, 6);
        for (String key : PlainModel.KEYS) wrong("store " + key + "=5;", 1, 6);
        wrong("store a5;", 1, 7);
        wrong("store a1=5;", 1, 7);
        wrong("store a b=5;", 1, 8);
        wrong("store a=b;", 1, 8);
        wrong("store a=-5;", 1, 8);
        wrong("store a=100000;", 1, 8);
        wrong("store a=000001;", 1, 8);
        wrong("number a=123456789012;", 1, 9);
        wrong("store a=1 2;", 1, 10);
        wrong("store a=1,", 1, 9);
        wrong("store\ta=1;", 1, 5);
        wrong("store a=1;\n", 1, 10);
        wrong("store a=1;" + (char) 255, 1, 10);
        wrong("store a=1;" + (char) 0, 1, 10);
        wrong("store a=1;number a=2;", 2, 17);
        wrong("store a=1;store a=b;", 2, 16);
        wrong("store a=1;table a=x;", 2, 16);
        wrong("delay d=0 of 1;", 1, 8);
        wrong("delay d=10 of 1;", 1, 8);
        wrong("delay d=000001 of 1;", 1, 8);
        wrong("delay d=x of 1;", 1, 8);
        wrong("delay d=1 1;", 1, 10);
        wrong("delay d=1 out 1;", 1, 10);
        wrong("delay d=1 of ;", 1, 13);
        wrong("delay d=1 of d;", 2, 13);
    }

    private static void faultsOfEnds() {
        wrong("stream s=1;", 1, 8);
        wrong("stream s to out from out=1;", 1, 9);
        wrong("stream s from out out=1;", 1, 18);
        wrong("stream s from out to =1;", 1, 21);
        wrong("stream s from out to out 1;", 1, 25);
        wrong("stream s from from to out=1;", 1, 14);
        wrong("stream s from abcdef to out=1;", 1, 14);
        wrong("stream s from 1 to out=1;", 1, 14);
        wrong("stream s from a to out=1;", 2, 14);
        wrong("stream s from s to out=1;", 2, 14);
        wrong("store a=1;stream s from a to b=1;", 2, 29);
        wrong("number n=1;stream s from n to out=1;", 3, 25);
        wrong("number n=1;stream s from out to n=1;", 3, 32);
        wrong("stream r from out to out=1;stream s from r to x=1;", 3, 41);
        wrong("table t=0:0,1:1;stream s from t to out=1;", 3, 30);
    }

    private static void faultsOfTables() {
        wrong("table t=1:2;", 1, 11);
        wrong("table t=1;", 1, 9);
        wrong("table t=1,2;", 1, 9);
        wrong("table t=:2;", 1, 8);
        wrong("table t=1:2,2;", 1, 13);
        wrong("table t=1:2,2:3,;", 1, 16);
        wrong("table t=1:2,2:x;", 1, 14);
        wrong("table t=1:2,2:3 4;", 1, 16);
        wrong("table t=1:2:3,4:5;", 1, 11);
        wrong("table t=5:1,5:1;", 3, 12);
        wrong("table t=5:1,4:1;", 3, 12);
        wrong("table t=5:1,6:1,00006:2;", 3, 16);
        wrong("table t=5:1,123456:1;", 1, 12);
        wrong("table t=5:1,7:123456;", 1, 14);
        wrong("table t=0:0,1:1,2:2,3:3,4:4,5:5,6:6;", 1, 31);
        wrong("table t=0:0,1:1,2:2,3:3,4:4,5:5,4:4;", 1, 31);
    }

    private static void faultsOfE() {
        wrong("helper h=;", 1, 9);
        wrong("helper h=h;", 2, 9);
        wrong("helper h=out;", 1, 9);
        wrong("helper h=abcdef;", 1, 9);
        wrong("helper h=x;", 2, 9);
        wrong("helper h=100000;", 1, 9);
        wrong("helper h=1+;", 1, 11);
        wrong("helper h=+1;", 1, 9);
        wrong("helper h=1*/2;", 1, 11);
        wrong("helper h=1<2<3;", 1, 12);
        wrong("helper h=1=2=3;", 1, 12);
        wrong("helper h=1<2=3;", 1, 12);
        wrong("helper h=1<;", 1, 11);
        wrong("helper h=1<=2;", 1, 11);
        wrong("helper h=();", 1, 10);
        wrong("helper h=(1;", 1, 11);
        wrong("helper h=(1]", 1, 11);
        wrong("helper h=1);", 1, 10);
        wrong("helper h=1];", 1, 10);
        wrong("helper h=1,2;", 1, 10);
        wrong("helper h=(1,2);", 1, 11);
        wrong("helper h=1 1;", 1, 11);
        wrong("helper h=1>2;", 1, 10);
        wrong("helper h=1", 1, 10);
        wrong("helper h=1+", 1, 11);
        wrong("helper h=least;", 1, 14);
        wrong("helper h=least 1,2;", 1, 15);
        wrong("helper h=least(1);", 1, 16);
        wrong("helper h=least(,2);", 1, 15);
        wrong("helper h=least(1,2,3);", 1, 18);
        wrong("helper h=least(1,2;", 1, 18);
        wrong("helper h=1 least(1,2);", 1, 11);
        wrong("store a=1;helper h=a[1];", 1, 20);
        wrong("store a=1;helper h=a(1);", 1, 20);
        wrong("table t=0:0,1:1;helper h=t;", 1, 26);
        wrong("table t=0:0,1:1;helper h=t(1);", 1, 26);
        wrong("table t=0:0,1:1;helper h=t[1;", 1, 28);
        wrong("table t=0:0,1:1;helper h=t[1);", 1, 28);
        wrong("table t=0:0,1:1;helper h=t[];", 1, 27);
        wrong("helper h=1;helper i=h+j+k;", 2, 22);
        wrong("helper h=(x", 2, 10);
    }

    private static void faultsOfOpenOnes() {
        right("helper h=----1;");
        wrong("helper h=-----1;", 1, 13);
        right("helper h=((((1))))+((((2))))<((((3))));");
        wrong("helper h=(((((1)))));", 1, 13);
        right("helper h=-(-(1));");
        wrong("helper h=-(-((1)));", 1, 13);
        right("helper h=----1-----1;");
        wrong("helper h=----1------1;", 1, 19);
        right("helper h=(---1)*(---1);");
        right("helper h=least(least(least(least(1,2),3),4),5);");
        right("helper h=least(---1+1,1);");
        wrong("helper h=least(----1,1);", 1, 18);
        wrong("helper h=least(1,----1);", 1, 20);
        wrong("helper h=least(least(least(least(least(1,2),3),4),5),6);", 1, 33);
        right("table t=0:0,5:9;helper h=(((t[1])));");
        wrong("table t=0:0,5:9;helper h=((((t[1]))));", 1, 30);
        wrong("table t=0:0,5:9;helper h=((((t))));", 1, 30);
        right("table t=0:0,5:9;helper h=t[t[t[t[1]]]];");
        wrong("table t=0:0,5:9;helper h=t[t[t[t[(1)]]]];", 1, 33);
        wrong("table t=0:0,5:9;helper h=----t[1];", 1, 30);
        wrong("helper h=((((x))));", 2, 13);
        wrong("helper h=((((least(1,2)))));", 1, 13);
    }

    /** Promise 4. */
    private static void faultAnswers() {
        StoreStreams x = new StoreStreams();
        Check.read(x, "store a=5; store a=6;");
        Check.due("fault(0)", x.fault(0), 2);
        Check.due("fault(1)", x.fault(1), 17);
        for (int what : new int[] {-1, 2, Integer.MIN_VALUE, Integer.MAX_VALUE}) {
            Check.due("fault(" + what + ")", x.fault(what), StoreStreams.BAD);
        }
        Check.feed(x, "store a=5;");
        Check.due("fault(1): only read() changes it", x.fault(1), 17);
        Check.due("read()", x.read(), 1);
        Check.due("fault(0)", x.fault(0), 0);
        Check.due("fault(1)", x.fault(1), 0);
    }

    /** Promise 5. */
    private static void naming() {
        StoreStreams x = Check.with("store z=1;store ba=2;store zzzzz=3;number lake=4;");
        Check.due("named(z)", x.named(26), 0);
        Check.due("named(ba)", x.named(2 * 27 + 1), 1);
        Check.due("named(zzzzz)", x.named(14348906), 2);
        Check.due("named(lake)", x.named(237227), 3);
        for (int name : new int[] {0, -26, 1, 27, 26 * 27, 26 * 27 + 26, 14348907, Integer.MIN_VALUE}) {
            Check.due("named(" + name + ")", x.named(name), StoreStreams.NONE);
        }
        Check.read(x, "store y=1;");
        Check.due("named(z) of another text", x.named(26), StoreStreams.NONE);
        Check.due("named(y)", x.named(25), 0);
    }

    /** Promise 6. */
    private static void telling() {
        StoreStreams x = Check.with("store a=1;delay b=2 of a;stream c from a to out=1;table d=1:1,2:2;number e=1;"
            + "helper f=1;stream g from out to a=1;stream h from out to out=1;stream i from a to a=2;");
        int[] kinds = {1, 2, 3, 4, 5, 6, 3, 3, 3};
        int[] froms = {-9, -9, 0, -9, -9, -9, -9, -9, 0};
        int[] tos = {-9, -9, -9, -9, -9, -9, 0, -9, 0};
        for (int i = 0; i < 9; i++) {
            Check.due("thing(" + i + ", 0)", x.thing(i, 0), kinds[i]);
            Check.due("thing(" + i + ", 1)", x.thing(i, 1), i + 1);
            Check.due("thing(" + i + ", 2)", x.thing(i, 2), froms[i]);
            Check.due("thing(" + i + ", 3)", x.thing(i, 3), tos[i]);
        }
        for (int i : new int[] {-1, 9, 16, Integer.MIN_VALUE, Integer.MAX_VALUE}) {
            Check.due("thing(" + i + ", 0)", x.thing(i, 0), StoreStreams.BAD);
        }
        for (int what : new int[] {-1, 4, Integer.MIN_VALUE, Integer.MAX_VALUE}) {
            Check.due("thing(0, " + what + ")", x.thing(0, what), StoreStreams.BAD);
        }
        Check.read(x, "store lake=7;");
        Check.due("thing(0, 1)", x.thing(0, 1), 237227);
    }
}
