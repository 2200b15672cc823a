/** Promises 15 to 18: moves, reached, rings, ring; and what section 3 of the terms says of CAUSES. */
public final class CausesTest {
    private static final int[] OUTSIDE = {-1, 16, Integer.MIN_VALUE, Integer.MAX_VALUE};

    public static void main(String[] args) {
        moving();
        reaching();
        ringsInOrder();
        ringsOfSixAtMost();
        ringsThatShare();
        Check.end("CausesTest");
    }

    /** Promise 15. */
    private static void moving() {
        StoreStreams x = Check.with("store a=5;number n=1;table t=0:0,9:9;delay d=2 of n+n;helper h=t[d]*a;"
            + "stream s from a to out=least(h,-n);stream u from a to a=1;"
            + "stream v from out to out=s;");
        // a 0, n 1, t 2, d 3, h 4, s 5, u 6, v 7
        int[] due = {1 << 4, 1 << 3 | 1 << 5, 1 << 4, 1 << 4, 1 << 5, 1 << 0 | 1 << 7, 1 << 0, 0};
        for (int i = 0; i < due.length; i++) Check.due("moves(" + i + ")", x.moves(i), due[i]);
        Check.due("moves(8)", x.moves(8), StoreStreams.BAD);
        for (int i : OUTSIDE) Check.due("moves(" + i + ")", x.moves(i), StoreStreams.BAD);
        x.run(5);
        Check.due("moves(0) at another step", x.moves(0), due[0]);
        for (int k = 0; k < 3; k++) {
            Check.read(x, "helper a=1;helper b=a;helper c=a;helper d=b;");
            Check.due("moves(0) of another text", x.moves(0), 6);
        }
        for (int k = 0; k < 3; k++) {
            Check.read(x, "helper a=1;number b=1;table c=0:1,1:2;store d=4;");
            for (int i = 0; i < 4; i++) Check.due("moves(" + i + ") of none", x.moves(i), 0);
        }
    }

    /** Promise 16. */
    private static void reaching() {
        StoreStreams x = Check.with("number n=1;helper a=n;helper b=a;helper c=b;store s=1;stream f from s to out=c;"
            + "helper z=s;helper y=2;");
        // n 0, a 1, b 2, c 3, s 4, f 5, z 6, y 7
        int behind = 1 << 4 | 1 << 6;
        int[] due = {0b1111110, 0b1111100, 0b1111000, 0b1110000, 1 << 6, behind, 0, 0};
        for (int i = 0; i < due.length; i++) Check.due("reached(" + i + ")", x.reached(i), due[i]);
        Check.due("reached(8)", x.reached(8), StoreStreams.BAD);
        for (int i : OUTSIDE) Check.due("reached(" + i + ")", x.reached(i), StoreStreams.BAD);
        x = Check.with("store a=1;stream f from a to out=a;");
        Check.due("reached(0), itself too", x.reached(0), 3);
        Check.due("reached(1), itself too", x.reached(1), 3);
    }

    private static void ring(StoreStreams x, int i, int... things) {
        Check.due("ring(" + i + ", -1)", x.ring(i, -1), things.length);
        for (int k = 0; k < things.length; k++) Check.due("ring(" + i + ", " + k + ")", x.ring(i, k), things[k]);
        Check.due("ring(" + i + ", behind)", x.ring(i, things.length), StoreStreams.NONE);
    }

    /** Promises 17 and 18. */
    private static void ringsInOrder() {
        StoreStreams x = Check.with("store a=5;store b=5;stream f from a to b=a;stream g from b to a=b+f;");
        Check.due("rings()", x.rings(), 4);
        ring(x, 0, 0, 2);
        ring(x, 1, 0, 2, 1, 3);
        ring(x, 2, 0, 2, 3);
        ring(x, 3, 1, 3);
        Check.due("ring(4, -1)", x.ring(4, -1), StoreStreams.NONE);
        Check.due("ring(4, 0)", x.ring(4, 0), StoreStreams.NONE);
        Check.due("ring(-1, 0)", x.ring(-1, 0), StoreStreams.NONE);
        Check.due("ring(least, 0)", x.ring(Integer.MIN_VALUE, 0), StoreStreams.NONE);
        Check.due("ring(most, 0)", x.ring(Integer.MAX_VALUE, 0), StoreStreams.NONE);
        Check.due("ring(0, most)", x.ring(0, Integer.MAX_VALUE), StoreStreams.NONE);
        Check.due("ring(0, -2)", x.ring(0, -2), StoreStreams.BAD);
        Check.due("ring(0, least)", x.ring(0, Integer.MIN_VALUE), StoreStreams.BAD);
        Check.due("ring(99, -2): BAD ahead of NONE", x.ring(99, -2), StoreStreams.BAD);
    }

    private static void ringsOfSixAtMost() {
        StoreStreams x = Check.with("store a=1;helper b=a;helper c=b;helper d=c;helper e=d;stream f from a to out=e;");
        Check.due("rings()", x.rings(), 1);
        ring(x, 0, 0, 1, 2, 3, 4, 5);
        x = Check.with("store a=1;helper b=a;helper c=b;helper d=c;helper e=d;helper g=e;stream f from a to out=g;");
        Check.due("rings() of seven THINGS", x.rings(), 0);
        Check.due("ring(0, -1)", x.ring(0, -1), StoreStreams.NONE);
        x = Check.with("number n=1;helper b=n;stream f from out to out=b;");
        Check.due("rings() without a STORE", x.rings(), 0);
    }

    /** Two ways from a STORE to a STREAM, and a shorter RING that is the beginning of none. */
    private static void ringsThatShare() {
        StoreStreams x = Check.with("store a=1;helper p=a;helper q=a+p;stream f from out to a=q+a;");
        // a 0, p 1, q 2, f 3: 0 1 2 3, 0 2 3, 0 3
        Check.due("rings()", x.rings(), 3);
        ring(x, 0, 0, 1, 2, 3);
        ring(x, 1, 0, 2, 3);
        ring(x, 2, 0, 3);
        x = Check.with("store a=1;store b=1;stream f from a to b=a+b;");
        // f moves both, both move f: 0 2, 1 2
        Check.due("rings()", x.rings(), 2);
        ring(x, 0, 0, 2);
        ring(x, 1, 1, 2);
    }
}
