import java.util.ArrayList;
import java.util.List;
import java.util.Random;

/** Runs of drawn calls (always the same ones) on the class and on the plain model: all answers must be the same. */
public final class RandomRunsTest {
    private static final int RUNS = 1500;

    /** A text more may come ahead of this: 38 calls that feed it and three, so that no object has more than 512. */
    private static final int CALLS = 470;

    private final Random random;
    private final DrawnText texts;
    private final StoreStreams real = new StoreStreams();
    private final PlainModel plain = new PlainModel();
    private final List<String> told = new ArrayList<>();
    private int calls = 0;

    private RandomRunsTest(long seed) {
        random = new Random(seed);
        texts = new DrawnText(random);
    }

    public static void main(String[] args) {
        int runs = args.length > 0 ? Integer.parseInt(args[0]) : RUNS;
        int from = args.length > 1 ? Integer.parseInt(args[1]) : 1;
        int wrong = 0;
        for (int seed = from; seed < from + runs && wrong < 5; seed++) {
            if (!new RandomRunsTest(seed).goes(seed)) wrong++;
        }
        System.out.println("RandomRunsTest: " + runs + " runs, " + wrong + " wrong");
        if (wrong != 0) System.exit(1);
    }

    private boolean goes(int seed) {
        while (calls < CALLS) {
            if (!(random.nextInt(70) == 0 || calls == 0 ? text() : oneCall())) {
                System.out.println("seed " + seed + ":");
                for (String line : told.subList(Math.max(0, told.size() - 60), told.size())) System.out.println(line);
                return false;
            }
        }
        return true;
    }

    private boolean same(String call, long got, long want) {
        calls++;
        told.add("  " + call + " answered " + got + ", due is " + want);
        return got == want;
    }

    private int below(int n) {
        return random.nextInt(n);
    }

    private boolean chance(int percent) {
        return below(100) < percent;
    }

    private boolean text() {
        StringBuilder all = texts.text();
        if (chance(8)) texts.spoilBytes(all);
        else if (chance(8)) texts.spoilTokens(all);
        told.add("  text: " + all);
        for (int k = 0; k < all.length(); k += 8) {
            int n = Math.min(8, all.length() - k);
            long eight = random.nextLong();
            for (int j = n - 1; j >= 0; j--) {
                eight = eight & ~(255L << 8 * j) | (long) all.charAt(k + j) << 8 * j;
            }
            if (!same("feed", real.feed(eight, n), plain.feed(eight, n))) return false;
        }
        return same("read()", real.read(), plain.read()) && same("fault(0)", real.fault(0), plain.fault(0))
            && same("fault(1)", real.fault(1), plain.fault(1));
    }

    // -- calls

    private int thing() {
        return chance(95) ? below(Math.max(1, plain.many(0))) : below(20) - 2;
    }

    private int kindOf(int kind) {
        for (int k = 0; k < 12; k++) {
            int i = thing();
            if (plain.thing(i, 0) == kind) return i;
        }
        return thing();
    }

    private int any() {
        int draw = below(10);
        if (draw < 5) return below(30) - 5;
        if (draw < 7) return below(200000) - 50000;
        if (draw < 8) return random.nextInt();
        return new int[] {Integer.MIN_VALUE, Integer.MAX_VALUE, -1, 0, 1, 999999, Integer.MAX_VALUE - 3}[below(7)];
    }

    private int steps() {
        return chance(90) ? below(12) : below(64) - 2;
    }

    private int few(int most) {
        return chance(95) ? below(most + 1) : below(most + 5) - 2;
    }

    private boolean oneCall() {
        return switch (below(8)) {
            case 0 -> textCall();
            case 1, 2 -> stepCall();
            case 3 -> causeCall();
            case 4 -> thoughtCall();
            case 5 -> rowCall();
            case 6 -> hostCall();
            default -> chance(70) ? stepCall() : keptCall();
        };
    }

    private boolean textCall() {
        int i = thing();
        int what = few(3);
        int name = chance(80) ? plain.thing(i, 1) : any();
        return same("named(" + name + ")", real.named(name), plain.named(name))
            && same("thing(" + i + ", " + what + ")", real.thing(i, what), plain.thing(i, what));
    }

    private boolean stepCall() {
        int i = thing();
        int a = steps();
        int v = any();
        switch (below(12)) {
            case 0: return same("value(" + i + ")", real.value(i), plain.value(i));
            case 1: return same("at(" + i + ", " + a + ")", real.at(i, a), plain.at(i, a));
            case 2:
            case 3:
                int stream = kindOf(3);
                int what = few(1);
                return same("flow(" + stream + ", " + what + ")", real.flow(stream, what), plain.flow(stream, what));
            case 4:
            case 5:
            case 6: return same("run(" + a + ")", real.run(a), plain.run(a));
            case 7: return !chance(30) || same("begin()", real.begin(), plain.begin());
            case 8:
                int number = kindOf(5);
                return same("change(" + number + ", " + v + ")", real.change(number, v), plain.change(number, v));
            case 9:
                int other = kindOf(5);
                int step = plain.many(1) + below(8);
                return same("event(" + step + ", " + other + ", " + v + ")", real.event(step, other, v),
                    plain.event(step, other, v));
            case 10:
                int of = few(3);
                return same("sum(" + of + ")", real.sum(of), plain.sum(of));
            default:
                int many = few(5);
                return same("many(" + many + ")", real.many(many), plain.many(many));
        }
    }

    private boolean causeCall() {
        int i = thing();
        int what = few(6) - 1;
        switch (below(4)) {
            case 0: return same("moves(" + i + ")", real.moves(i), plain.moves(i));
            case 1: return same("reached(" + i + ")", real.reached(i), plain.reached(i));
            case 2: return same("rings()", real.rings(), plain.rings());
            default: return same("ring(" + i + ", " + what + ")", real.ring(i, what), plain.ring(i, what));
        }
    }

    private boolean thoughtCall() {
        int n = steps();
        int number = kindOf(5);
        int store = kindOf(1);
        int low = any();
        int high = low + below(8) - (chance(10) ? 3 : 0) + (chance(5) ? 15 : 0);
        int sheet = few(3);
        int what = few(1);
        switch (below(6)) {
            case 0:
                int more = chance(50) ? n : n * 10;
                return same("rest(" + more + ")", real.rest(more), plain.rest(more));
            case 1: return same("swing(" + n + ", " + what + ")", real.swing(n, what), plain.swing(n, what));
            case 2:
                int thing = thing();
                return same("pull(" + number + ", " + low + ", " + thing + ", " + n + ")",
                    real.pull(number, low, thing, n), plain.pull(number, low, thing, n));
            case 3:
                return same("best(" + number + ", " + low + ", " + high + ", " + store + ", " + n + ")",
                    real.best(number, low, high, store, n), plain.best(number, low, high, store, n));
            case 4:
                return same("miss(" + store + ", " + sheet + ")", real.miss(store, sheet), plain.miss(store, sheet));
            default:
                return same("fit(" + number + ", " + low + ", " + high + ", " + store + ", " + sheet + ")",
                    real.fit(number, low, high, store, sheet), plain.fit(number, low, high, store, sheet));
        }
    }

    private boolean rowCall() {
        int i = thing();
        int row = steps();
        int what = few(1);
        int v = chance(50) ? plain.row(row, what) : any();
        switch (below(4)) {
            case 0: return same("prove(" + i + ")", real.prove(i), plain.prove(i));
            case 1: return same("row(" + row + ", " + what + ")", real.row(row, what), plain.row(row, what));
            case 2:
                return same("alterRow(" + row + ", " + what + ", " + v + ")", real.alterRow(row, what, v),
                    plain.alterRow(row, what, v));
            default: return same("judge(" + i + ")", real.judge(i), plain.judge(i));
        }
    }

    private boolean hostCall() {
        int sheet = few(3);
        int sort = chance(50) ? 2 : few(4) - 1;
        int i = chance(80) ? below(6) : any();
        int v = any();
        int act = few(3);
        switch (below(9)) {
            case 0: return same("sheet(" + sheet + ", " + sort + ", " + i + ")", real.sheet(sheet, sort, i),
                plain.sheet(sheet, sort, i));
            case 1:
            case 2: return same("put(" + sheet + ", " + i + ", " + v + ")", real.put(sheet, i, v),
                plain.put(sheet, i, v));
            case 3: return same("item(" + sheet + ", " + sort + ", " + i + ")", real.item(sheet, sort, i),
                plain.item(sheet, sort, i));
            case 4:
                int what = chance(60) ? 0 : few(2);
                int n = what == 0 ? thing() : few(3);
                return same("shelf(" + sheet + ", " + what + ", " + n + ")", real.shelf(sheet, what, n),
                    plain.shelf(sheet, what, n));
            case 5:
                int as = below(17) - 1;
                return same("taken(" + sheet + ", " + as + ")", real.taken(sheet, as), plain.taken(sheet, as));
            case 6:
            case 7: return same("act(" + sheet + ", " + act + ", " + v + ")", real.act(sheet, act, v),
                plain.act(sheet, act, v)) && same("many(5)", real.many(5), plain.many(5));
            default:
                int k = below(9) - 1;
                return same("trace(" + k + ")", real.trace(k), plain.trace(k));
        }
    }

    private boolean keptCall() {
        if (chance(50)) return same("keep()", real.keep(), plain.keep());
        return same("back()", real.back(), plain.back());
    }
}
