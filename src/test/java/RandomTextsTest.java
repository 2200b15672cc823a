import java.util.List;
import java.util.Random;

/** Drawn texts (always the same ones), most of them spoiled: what read() finds in them, against the plain model. */
public final class RandomTextsTest {
    private static final int TEXTS = 30000;

    public static void main(String[] args) {
        int texts = args.length > 0 ? Integer.parseInt(args[0]) : TEXTS;
        int from = args.length > 1 ? Integer.parseInt(args[1]) : 1;
        int[] kinds = new int[4];
        for (int seed = from; seed < from + texts; seed++) {
            Random random = new Random(seed);
            DrawnText drawn = new DrawnText(random);
            StringBuilder text = drawn.text();
            int how = random.nextInt(4);
            if (how == 1) drawn.spoilBytes(text);
            if (how > 1) drawn.spoilTokens(text);
            Check.about("seed " + seed + ": " + text);
            kinds[reads(text.toString())]++;
        }
        for (int kind = 0; kind < 4; kind++) Check.due("texts of kind " + kind + " are there", kinds[kind] > 0 ? 1 : 0, 1);
        System.out.println("RandomTextsTest: " + kinds[0] + " right texts, " + kinds[1] + ", " + kinds[2] + " and " + kinds[3]
            + " with faults of kind 1, 2 and 3");
        Check.end("RandomTextsTest");
    }

    /** The kind of THE FAULT, 0 if there is none. */
    private static int reads(String text) {
        StoreStreams x = new StoreStreams();
        int answer = Check.read(x, text);
        try {
            List<PlainModel.Thing> things = new PlainModel.Parser(text).text();
            Check.due("read()", answer, things.size());
            Check.due("fault(0)", x.fault(0), 0);
            Check.due("fault(1)", x.fault(1), 0);
            for (int i = 0; i < things.size(); i++) isThere(x, i, things);
            return 0;
        } catch (PlainModel.Fault fault) {
            Check.due("read()", answer, -100 - fault.kind);
            Check.due("fault(0)", x.fault(0), fault.kind);
            Check.due("fault(1)", x.fault(1), fault.place);
            Check.due("many(0)", x.many(0), 0);
            return fault.kind;
        }
    }

    private static void isThere(StoreStreams x, int i, List<PlainModel.Thing> things) {
        PlainModel.Thing thing = things.get(i);
        Check.due("thing(" + i + ", 0)", x.thing(i, 0), thing.kindNumber());
        Check.due("thing(" + i + ", 1)", x.thing(i, 1), thing.nameNumber());
        Check.due("thing(" + i + ", 2)", x.thing(i, 2), thing.from);
        Check.due("thing(" + i + ", 3)", x.thing(i, 3), thing.to);
        Check.due("named(" + thing.name + ")", x.named(Check.name(thing.name)), i);
        int bits = 0;
        for (int b = 0; b < things.size(); b++) {
            PlainModel.Thing other = things.get(b);
            boolean ends = thing.kind.equals("stream") && (thing.from == b || thing.to == b);
            if (ends || other.e != null && other.e.names(i)) bits |= 1 << b;
        }
        Check.due("moves(" + i + ")", x.moves(i), bits);
    }
}
