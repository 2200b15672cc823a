import java.util.ArrayList;
import java.util.List;
import java.util.Random;

/** No call throws, whatever its arguments and the state; and a call that is refused changes nothing. */
public final class AnyArgumentsTest {
    private static final int NO = StoreStreams.NO;
    private static final int[] EDGES = {NO, NO + 1, -1000000, -101, -15, -10, -9, -3, -2, -1, 0, 1, 2, 3, 4, 5, 6, 7, 8,
        9, 10, 12, 13, 14, 15, 16, 17, 20, 21, 29, 30, 31, 39, 40, 41, 59, 60, 61, 62, 199, 200, 201, 300, 65536, 999999,
        1000000, Integer.MAX_VALUE - 1, Integer.MAX_VALUE};
    private static final String[] TEXTS = {"",
        "store a=10;number n=4;stream f from a to out=n;delay d=9 of a*99999*99999;table t=0:9,5:0,99999:99999;"
            + "helper h=t[a]/(n-4);stream g from out to a=h;",
        "store a=99999;store b=0;stream f from a to b=a*99999;stream g from b to a=b+f;stream h from b to out=f*g;"
            + "stream i from out to b=99999*20000;number k=9;stream j from a to a=k*k-f/k;delay d=3 of -j;",
        "helper a=((((1))));helper b=least(least(least(least(a,a),a),a),a);helper c=----b;helper d=a/0;",
        "table t=0:0,1:1;stream s from out to out=t[t[t[t[5]]]];number n=0;store q=0;"};

    /** So few that all of them, two texts and all that a Picture asks of one object are no more than 512. */
    private static final int CALLS_AHEAD_OF_PICTURES = 120;
    private static final int CALLS = 380;
    private static final int READS = 33;

    /** A call by its number; it takes as many of the arguments as it needs. */
    private record Call(int number, int a, int b, int c, int d, int more) {
        long on(StoreStreams x) {
            return switch (number) {
                case 0 -> x.feed((long) a << 32 ^ b, c);
                case 1 -> x.run(a);
                case 2 -> x.event(a, b, c);
                case 3 -> x.prove(a);
                case 4 -> x.sheet(a, b, c);
                case 5 -> x.put(a, b, c);
                case 6 -> x.shelf(a, b, c);
                case 7 -> x.begin();
                case 8 -> x.change(a, b);
                case 9 -> x.alterRow(a, b, c);
                case 10 -> x.act(a, b, c);
                case 11 -> more % 3 == 0 ? x.keep() : x.back();
                case 12 -> x.fault(a);
                case 13 -> x.named(a);
                case 14 -> x.thing(a, b);
                case 15 -> x.value(a);
                case 16 -> x.at(a, b);
                case 17 -> x.flow(a, b);
                case 18 -> x.sum(a);
                case 19 -> x.moves(a);
                case 20 -> x.reached(a);
                case 21 -> x.rings();
                case 22 -> x.ring(a, b);
                case 23 -> x.rest(a);
                case 24 -> x.swing(a, b);
                case 25 -> x.pull(a, b, c, d);
                case 26 -> x.best(a, b, b + more - 2, c, d);
                case 27 -> x.miss(a, b);
                case 28 -> x.fit(a, b, b + more - 2, c, d);
                case 29 -> x.row(a, b);
                case 30 -> x.judge(a);
                case 31 -> x.item(a, b, c);
                case 32 -> x.taken(a, b) + x.trace(b) + x.many(c);
                default -> Check.read(x, TEXTS[more % TEXTS.length]);
            };
        }

        /** Calls from 12 on only ask; calls 0 to 7 answer numbers from 0 on, if they are not refused. */
        boolean changesNothing(long answer) {
            return number >= 12 && number < READS || number < 8 && answer < 0;
        }
    }

    private final Random random;

    private AnyArgumentsTest(int seed) {
        random = new Random(seed);
    }

    public static void main(String[] args) {
        for (int seed = 1; seed <= 300; seed++) new AnyArgumentsTest(seed).goes();
        for (int seed = 301; seed <= 3300; seed++) new AnyArgumentsTest(seed).anyBytes();
        Check.end("AnyArgumentsTest");
    }

    private int any() {
        if (random.nextInt(3) == 0) return random.nextInt(8);
        return random.nextInt(12) == 0 ? random.nextInt() : EDGES[random.nextInt(EDGES.length)];
    }

    private Call draw(boolean text) {
        return new Call(text ? READS : random.nextInt(READS), any(), any(), any(), any(), random.nextInt(25));
    }

    private void goes() {
        StoreStreams x = new StoreStreams();
        List<Call> ahead = new ArrayList<>();
        for (int k = 0; k < CALLS; k++) {
            Call call = draw(k % 60 == 0 && k <= CALLS_AHEAD_OF_PICTURES);
            long answer = call.on(x);
            boolean pictured = k < CALLS_AHEAD_OF_PICTURES && random.nextInt(20) == 0;
            if (pictured && call.changesNothing(answer)) looksTheSame(ahead, call);
            ahead.add(call);
        }
        Check.due("no call threw", 0, 0);
    }

    private static StoreStreams behind(List<Call> calls) {
        StoreStreams x = new StoreStreams();
        for (Call call : calls) call.on(x);
        return x;
    }

    private static void looksTheSame(List<Call> ahead, Call call) {
        List<Call> with = new ArrayList<>(ahead);
        with.add(call);
        boolean same = Picture.of(() -> behind(ahead)).equals(Picture.of(() -> behind(with)));
        Check.due(call + " changes something: 0 no, 1 yes", same ? 0 : 1, 0);
    }

    /** Texts of drawn bytes and of drawn pieces of texts. */
    private void anyBytes() {
        String[] pieces = {"store ", "stream ", "helper ", "number ", "table ", "delay ", " from ", " to ", "out", " of ",
            "least", "a", "b", "=", ";", "(", ")", "[", "]", "-", "+", "*", "/", "<", ",", ":", "1", "99999", "0", " "};
        StoreStreams x = new StoreStreams();
        for (int k = 0; k < 7; k++) {
            int most = random.nextInt(60);
            for (int j = 0; j < most; j++) {
                if (random.nextInt(40) == 0) x.feed(random.nextLong(), 1 + random.nextInt(8));
                else Check.feed(x, pieces[random.nextInt(pieces.length)]);
            }
            int bytes = x.many(4);
            int answer = x.read();
            Check.due("THE TAPE is used up", x.many(4), 0);
            Check.due("fault(0) is as read() tells", x.fault(0), answer < 0 ? -100 - answer : 0);
            int place = x.fault(1);
            if (place < 0 || place > bytes) Check.due("fault(1)", place, bytes);
        }
    }
}
