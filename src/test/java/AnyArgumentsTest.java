import java.util.ArrayList;
import java.util.List;
import java.util.Random;

/** No call throws, whatever its arguments and the state; and a call that is refused changes nothing. */
public final class AnyArgumentsTest {
    private static final int NO = StoreStreams.NO;
    private static final int[] EDGES = {NO, NO + 1, -1000000, -101, -15, -10, -9, -3, -2, -1, 0, 1, 2, 3, 4, 5, 6, 7, 8,
        9, 10, 12, 13, 14, 15, 16, 17, 20, 21, 29, 30, 31, 39, 40, 41, 59, 60, 61, 62, 199, 200, 201, 300, 65536, 999999,
        1000000, Integer.MAX_VALUE - 1, Integer.MAX_VALUE};
    private static final String[] TEXTS = {"",
        "store a=10;number n=4;stream f from a to out=n;delay d=9 of a*99999*99999;table t=0:9,5:0,99999:99999;"
            + "helper h=t[a]/(n-4);stream g from out to a=h;",
        "store a=99999;store b=0;stream f from a to b=a*99999;stream g from b to a=b+f;stream h from b to out=f*g;"
            + "stream i from out to b=99999*20000;number k=9;stream j from a to a=k*k-f/k;delay d=3 of -j;",
        "helper a=((((1))));helper b=least(least(least(least(a,a),a),a),a);helper c=----b;helper d=a/0;",
        "table t=0:0,1:1;stream s from out to out=t[t[t[t[5]]]];number n=0;store q=0;"};

    private final Random random;
    private final StoreStreams x = new StoreStreams();

    private AnyArgumentsTest(int seed) {
        random = new Random(seed);
    }

    public static void main(String[] args) {
        for (int seed = 1; seed <= 300; seed++) new AnyArgumentsTest(seed).goes();
        for (int seed = 301; seed <= 330; seed++) new AnyArgumentsTest(seed).anyBytes();
        Check.end("AnyArgumentsTest");
    }

    private int any() {
        if (random.nextInt(3) == 0) return random.nextInt(8);
        return random.nextInt(12) == 0 ? random.nextInt() : EDGES[random.nextInt(EDGES.length)];
    }

    private void goes() {
        for (int k = 0; k < 500; k++) {
            if (k % 100 == 0) Check.read(x, TEXTS[random.nextInt(TEXTS.length)]);
            List<Long> was = picture();
            int call = random.nextInt(33);
            int a = any();
            int b = any();
            int c = any();
            long answer = answer(call, a, b, c);
            boolean refused = changesNothing(call) || refusal(call, answer);
            if (refused && !was.equals(picture())) {
                Check.due("call " + call + "(" + a + ", " + b + ", " + c + ") that is refused changes something", 1, 0);
            }
        }
        Check.due("no call threw", 0, 0);
    }

    /** Calls 0 to 7 answer numbers from 0 on, if they are not refused. */
    private static boolean refusal(int call, long answer) {
        return answer < 0 && call < 8;
    }

    private static boolean changesNothing(int call) {
        return call > 11;
    }

    private long answer(int call, int a, int b, int c) {
        switch (call) {
            case 0: return x.feed((long) a << 32 ^ b, c);
            case 1: return x.run(a);
            case 2: return x.event(a, b, c);
            case 3: return x.prove(a);
            case 4: return x.sheet(a, b, c);
            case 5: return x.put(a, b, c);
            case 6: return x.shelf(a, b, c);
            case 7: return x.begin();
            case 8: return x.change(a, b);
            case 9: return x.alterRow(a, b, c);
            case 10: return x.act(a, b, c);
            case 11: return random.nextInt(3) == 0 ? x.keep() : x.back();
            case 12: return x.fault(a);
            case 13: return x.named(a);
            case 14: return x.thing(a, b);
            case 15: return x.value(a);
            case 16: return x.at(a, b);
            case 17: return x.flow(a, b);
            case 18: return x.sum(a);
            case 19: return x.moves(a);
            case 20: return x.reached(a);
            case 21: return x.rings();
            case 22: return x.ring(a, b);
            case 23: return x.rest(a);
            case 24: return x.swing(a, b);
            case 25: return x.pull(a, b, c, any());
            case 26: return x.best(a, b, b + random.nextInt(25) - 2, c, any());
            case 27: return x.miss(a, b);
            case 28: return x.fit(a, b, b + random.nextInt(25) - 2, c, any());
            case 29: return x.row(a, b);
            case 30: return x.judge(a);
            case 31: return x.item(a, b, c);
            default: return x.taken(a, b) + x.trace(b) + x.many(c);
        }
    }

    /** All that can be asked without a change. */
    private List<Long> picture() {
        List<Long> all = new ArrayList<>();
        for (int what = 0; what <= 5; what++) all.add((long) x.many(what));
        for (int what = 0; what <= 3; what++) all.add(x.sum(what));
        for (int i = 0; i < x.many(0); i++) {
            all.add((long) x.value(i));
            all.add((long) x.thing(i, 1));
            all.add((long) x.flow(i, 0));
            for (int step = 0; step <= x.many(1); step += 7) all.add((long) x.at(i, step));
        }
        for (int k = 0; k < x.many(3); k += 5) {
            all.add((long) x.row(k, 0));
            all.add((long) x.row(k, 1));
        }
        for (int k = 0; k < x.many(5); k++) all.add((long) x.trace(k));
        for (int sheet = 0; sheet <= 3; sheet++) {
            for (int sort = 0; sort <= 3; sort++) {
                for (int i = 0; i <= 40; i += 10) all.add((long) x.item(sheet, sort, i));
            }
            for (int as = 0; as <= 13; as++) all.add((long) x.taken(sheet, as));
        }
        all.add((long) x.fault(0));
        all.add((long) x.fault(1));
        all.add((long) x.rings());
        all.add((long) x.rest(70));
        return all;
    }

    /** Texts of drawn bytes and of drawn pieces of texts. */
    private void anyBytes() {
        String[] pieces = {"store ", "stream ", "helper ", "number ", "table ", "delay ", " from ", " to ", "out", " of ",
            "least", "a", "b", "=", ";", "(", ")", "[", "]", "-", "+", "*", "/", "<", ",", ":", "1", "99999", "0", " "};
        for (int k = 0; k < 400; k++) {
            int most = random.nextInt(60);
            for (int j = 0; j < most; j++) {
                if (random.nextInt(40) == 0) x.feed(random.nextLong(), 1 + random.nextInt(8));
                else Check.feed(x, pieces[random.nextInt(pieces.length)]);
            }
            int bytes = x.many(4);
            int answer = x.read();
            Check.due("THE TAPE is used up", x.many(4), 0);
            Check.due("fault(0) is as read() tells", x.fault(0), answer < 0 ? -100 - answer : 0);
            if (x.fault(1) < 0 || x.fault(1) > bytes) Check.due("fault(1)", x.fault(1), bytes);
        }
    }
}
