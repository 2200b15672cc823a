/** The edges that section 3 of the terms names of CAUSES, and promises 15 to 18: moves, reached, rings, ring. */
final class EdgesOfCauses extends Edges {
    private EdgesOfCauses() {
    }

    static void all() {
        whatMovesWhat();
        whatIsReached();
        ringsInOrder();
        moves();
        movesBad();
        reached();
        reachedBad();
        rings();
        ring();
        ringRefused();
    }

    private static void whatMovesWhat() {
        says("3", "CAUSES: THING a moves b, if E of b names a (also a TABLE), and a STREAM moves the STORES that it goes from "
            + "and to.");
        StoreStreams x = with("store a=1;store b=1;number n=1;table t=0:0,1:1;stream f from a to b=n;stream g from a to a=0;"
            + "stream h from out to b=0*a;stream i from b to out=t[f];stream j from out to out=-(i);delay d=1 of least(n,b);");
        // a 0, b 1, n 2, t 3, f 4, g 5, h 6, i 7, j 8, d 9
        int[] due = {1 << 6, 1 << 9, 1 << 4 | 1 << 9, 1 << 7, 1 | 1 << 1 | 1 << 7, 1, 1 << 1, 1 << 1 | 1 << 8, 0, 0};
        for (int i = 0; i < due.length; i++) due("moves(" + i + ")", x.moves(i), due[i]);
        StoreStreams twice = with("number n=1;helper h=n+n*n;");
        due("named more than once", twice.moves(0), 2);
        StoreStreams none = with("store a=1;stream f from a to out=1;");
        due("a STORE moves no STREAM from it that doesn't name it", none.moves(0), 0);
    }

    private static void whatIsReached() {
        says("3", "REACHED by a are all THINGS that a moves, or that what it moves moves, and so on.");
        StringBuilder chain = new StringBuilder("number a=1;");
        for (char c = 'b'; c < 'a' + 16; c++) chain.append("helper ").append(c).append('=').append((char) (c - 1)).append(';');
        StoreStreams x = with(chain.toString());
        for (int i = 0; i < 16; i++) due("reached(" + i + ")", x.reached(i), 0xffff & ~((1 << i + 1) - 1));
        StoreStreams y = with("store a=1;store b=1;store c=1;stream p from c to b=c;stream q from b to a=b;stream r from a to "
            + "out=a;helper h=a;helper k=1;");
        // back from the last THING to the first: c 2, p 3, b 1, q 4, a 0, r 5, h 6
        due("reached(2)", y.reached(2), 0b1111111);
        due("reached(1)", y.reached(1), 0b1110011);
        due("reached(0)", y.reached(0), 0b1100001);
        due("reached(3)", y.reached(3), 0b1111111);
        due("reached(6)", y.reached(6), 0);
        due("reached(7)", y.reached(7), 0);
    }

    private static void ring(StoreStreams x, int i, int... things) {
        due("ring(" + i + ", -1)", x.ring(i, -1), things.length);
        for (int k = 0; k < things.length; k++) due("ring(" + i + ", " + k + ")", x.ring(i, k), things[k]);
        due("ring(" + i + ", " + things.length + ")", x.ring(i, things.length), NONE);
    }

    private static void ringsInOrder() {
        says("3", "RINGS: rows of different THINGS, 6 at most, each of which moves the next one, and the last one the first "
            + "(one alone: that moves itself), each told from its least THING on; in order: by their rows, number by number, a "
            + "row that ends ahead of one that goes on.");
        StoreStreams six = with("store a=1;helper b=a;helper c=b;helper d=c;helper e=d;stream f from a to out=e;");
        due("rings() of six", six.rings(), 1);
        ring(six, 0, 0, 1, 2, 3, 4, 5);
        StoreStreams seven = with("store a=1;helper b=a;helper c=b;helper d=c;helper e=d;helper g=e;stream f from a to out=g;");
        due("rings() of seven", seven.rings(), 0);
        StoreStreams both = with("store a=1;helper b=a;helper c=b;helper d=c;helper e=d+a;helper g=e;stream f from a to out=g;");
        due("rings(): the short way alone", both.rings(), 1);
        ring(both, 0, 0, 4, 5, 6);
        StoreStreams x = with("store a=5;store b=5;stream f from a to b=a;stream g from b to a=b+f;");
        due("rings()", x.rings(), 4);
        ring(x, 0, 0, 2);
        ring(x, 1, 0, 2, 1, 3);
        ring(x, 2, 0, 2, 3);
        ring(x, 3, 1, 3);
        StoreStreams alone = with("store a=1;number n=1;table t=0:0,1:1;delay d=1 of t[n];helper h=d;stream f from a to a=h;");
        due("rings(): none moves itself", alone.rings(), 0);
        StoreStreams least = with("helper z=1;store a=1;stream f from a to out=a+z;");
        due("rings()", least.rings(), 1);
        ring(least, 0, 1, 2);
        StoreStreams two = with("store a=1;stream f from a to out=a;stream g from a to out=a;stream h from a to out=f+g;");
        due("rings()", two.rings(), 4);
        ring(two, 0, 0, 1);
        ring(two, 1, 0, 1, 3);
        ring(two, 2, 0, 2);
        ring(two, 3, 0, 2, 3);
    }

    private static void moves() {
        says("Promise 15", "THINGS that a THING moves, as bits.");
        StoreStreams x = WORLD.get();
        int[] due = {1 << 3 | 1 << 5, 1 << 2, 1, 0, 1 << 5, 0, 1};
        for (int i = 0; i < 7; i++) due("moves(" + i + ")", x.moves(i), due[i]);
        StoreStreams last = with("number a=1;store b=1;" + numbers(15).substring(22) + "stream z from b to b=a;");
        due("moves(0)", last.moves(0), 1 << 15);
        due("moves(15)", last.moves(15), 2);
    }

    private static void movesBad() {
        says("Promise 15", "BAD.");
        for (int i : new int[] {-1, 7, 16, 32, NO, MOST}) refused(WORLD, "moves(" + i + ")", x -> x.moves(i), BAD);
        due("moves(16) of 16", with(numbers(16)).moves(16), BAD);
    }

    private static void reached() {
        says("Promise 16", "REACHED, as bits.");
        StoreStreams x = WORLD.get();
        // n moves f, f moves a, a moves d and h
        int[] due = {0b101000, 0b101101, 0b101001, 0, 0b100000, 0, 0b101001};
        for (int i = 0; i < 7; i++) due("reached(" + i + ")", x.reached(i), due[i]);
    }

    private static void reachedBad() {
        says("Promise 16", "BAD.");
        for (int i : new int[] {-1, 7, 16, 32, NO, MOST}) refused(WORLD, "reached(" + i + ")", x -> x.reached(i), BAD);
        due("reached(16) of 16", with(numbers(16)).reached(16), BAD);
    }

    private static void rings() {
        says("Promise 17", "How many RINGS there are.");
        due("rings() without THINGS", new StoreStreams().rings(), 0);
        due("rings() without any", WORLD.get().rings(), 0);
        due("rings() of one", with("store a=1;stream f from a to out=a;").rings(), 1);
        due("rings() of none of 16", with(numbers(16)).rings(), 0);
        due("rings() of 16", with(numbers(14) + "store y=1;stream z from y to out=y;").rings(), 1);
        StoreStreams x = with("store a=1;store b=1;stream f from a to b=a+b;stream g from b to a=a+b;");
        // a moves f g, b moves f g, f moves a b, g moves a b: 0 2, 0 2 1 3, 0 3, 0 3 1 2, 1 2, 1 3
        due("rings()", x.rings(), 6);
        ring(x, 0, 0, 2);
        ring(x, 1, 0, 2, 1, 3);
        ring(x, 2, 0, 3);
        ring(x, 3, 0, 3, 1, 2);
        ring(x, 4, 1, 2);
        ring(x, 5, 1, 3);
        x.run(9);
        due("rings() at another step", x.rings(), 6);
    }

    private static void ring() {
        says("Promise 18", "RING i: what = -1 how many THINGS, else the what-th THING (from 0 on).");
        StoreStreams x = with(numbers(14) + "store y=1;stream z from y to out=y;");
        ring(x, 0, 14, 15);
        StoreStreams y = with("store a=1;stream f from a to out=a;stream g from a to out=a;");
        ring(y, 0, 0, 1);
        ring(y, 1, 0, 2);
        due("ring(0, 1) behind ring(1, ..)", y.ring(0, 1), 1);
        due("rings() behind ring(0, ..)", y.rings(), 2);
        due("ring(1, 1) behind rings()", y.ring(1, 1), 2);
    }

    private static void ringRefused() {
        says("Promise 18", "BAD: what is below -1; NONE: no such RING, or THING in it.");
        String text = "store a=1;stream f from a to out=a;stream g from a to out=a;";
        for (int what : new int[] {-2, -3, NO}) {
            refused(WORLD, "ring(0, " + what + ")", x -> x.ring(0, what), BAD);
            due("ring(0, " + what + ")", with(text).ring(0, what), BAD);
            due("ring(9, " + what + ")", with(text).ring(9, what), BAD);
        }
        for (int i : new int[] {-1, 2, 3, NO, MOST}) {
            for (int what = -1; what <= 1; what++) due("ring(" + i + ", " + what + ")", with(text).ring(i, what), NONE);
        }
        for (int what : new int[] {2, 3, 5, 6, 7, MOST}) {
            due("ring(0, " + what + ")", with(text).ring(0, what), NONE);
            due("ring(1, " + what + ")", with(text).ring(1, what), NONE);
        }
        refused(WORLD, "ring(0, -1)", x -> x.ring(0, -1), NONE);
        refused(WORLD, "ring(0, 0)", x -> x.ring(0, 0), NONE);
    }
}
