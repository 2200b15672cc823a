import java.io.IOException;
import java.nio.file.Path;
import java.util.IdentityHashMap;
import java.util.List;
import java.util.Map;
import java.util.function.Supplier;
import java.util.function.ToLongFunction;

/** What the tests of the edges share: a sentence of the document is said, and what comes behind it is its test. */
abstract class Edges {
    static final int BAD = StoreStreams.BAD;
    static final int FULL = StoreStreams.FULL;
    static final int NONE = StoreStreams.NONE;
    static final int NO = StoreStreams.NO;
    static final int MOST = Integer.MAX_VALUE;

    private static final Map<Supplier<StoreStreams>, List<Long>> PICTURES = new IdentityHashMap<>();
    private static Document document;
    private static String latest = "";
    private static int answersAhead = 0;
    private static int sentences = 0;

    static void open(Path file) throws IOException {
        document = new Document(file);
        Check.due("sections of the document", document.sections(), 44);
    }

    /** A sentence begins: it must stand in the document, and only one test may be its own. */
    static void says(String section, String sentence) {
        closeLatest();
        latest = section + ": " + sentence;
        sentences++;
        Check.about(latest);
        if (!document.says(section, sentence)) Check.due("the document does not say this (or it is tested twice)", 0, 1);
        answersAhead = Check.answers();
    }

    private static void closeLatest() {
        if (sentences > 0 && Check.answers() == answersAhead) Check.due("this sentence has no test", 0, 1);
    }

    static void end(String test) {
        closeLatest();
        Check.about("the document");
        document.unsaid().forEach((section, words) -> Check.due(section + " has no test: " + words, 0, 1));
        System.out.println(test + ": " + sentences + " sentences of the document");
        Check.end(test);
    }

    static void due(String call, long got, long want) {
        Check.due(call, got, want);
    }

    static StoreStreams with(String text) {
        return Check.with(text);
    }

    /** A call on an object in a state: its answer, and that nothing is seen to change by it. */
    static void refused(Supplier<StoreStreams> made, String call, ToLongFunction<StoreStreams> asked, long want) {
        due(call, asked.applyAsLong(made.get()), want);
        List<Long> ahead = PICTURES.computeIfAbsent(made, Picture::of);
        List<Long> behind = Picture.of(() -> {
            StoreStreams x = made.get();
            asked.applyAsLong(x);
            return x;
        });
        due(call + " changes something: 0 no, 1 yes", ahead.equals(behind) ? 0 : 1, 0);
    }

    /** A world with something of everything; see world(). */
    static final Supplier<StoreStreams> WORLD = Edges::world;

    /** a 0, n 1, f 2, d 3, t 4, h 5, g 6; a has been 10, 7, 4 and is 2, n is 3 and will be 2 at step 5. */
    private static StoreStreams world() {
        StoreStreams x = new StoreStreams();
        Check.read(x, "store a=10;number n=4;stream f from a to out=n;delay d=2 of a;table t=0:0,9:9;helper h=t[a];"
            + "stream g from out to a=1;");
        x.event(5, 1, 2);
        x.run(2);
        x.change(1, 3);
        x.keep();
        x.run(1);
        x.prove(0);
        x.sheet(0, 2, 3);
        x.put(0, 0, 9);
        x.put(0, 1, -1);
        x.sheet(1, 0, 2);
        x.put(1, 1, -7);
        x.sheet(3, 3, 40);
        x.put(3, 39, NO);
        x.shelf(0, 0, 1);
        x.shelf(1, 0, 4);
        x.shelf(2, 1, 0);
        x.act(0, 1, 5);
        Check.read(x, "store z=5;;");
        Check.feed(x, "store z=1;");
        return x;
    }

    /** THINGS with one letter each, as many as told, all NUMBERS that are 1. */
    static String numbers(int many) {
        StringBuilder all = new StringBuilder();
        for (int k = 0; k < many; k++) all.append("number ").append((char) ('a' + k)).append("=1;");
        return all.toString();
    }

    /** A text whose FAULT is of a kind and at the | in it, which is no part of the text. */
    static void faulty(int kind, String marked) {
        String text = marked.replace("|", "");
        StoreStreams x = new StoreStreams();
        due("read() of " + text, Check.read(x, text), -100 - kind);
        due("fault(0) of " + text, x.fault(0), kind);
        due("fault(1) of " + text, x.fault(1), marked.indexOf('|'));
        due("many(0) behind " + text, x.many(0), 0);
    }

    static void fine(String text) {
        StoreStreams x = with(text);
        due("fault(0) of " + text, x.fault(0), 0);
        due("fault(1) of " + text, x.fault(1), 0);
    }

    /** What E is worth; m is the least int, p the most, n is 7, z is 0. */
    static void worth(String e, int want) {
        StoreStreams x = with("number m=0;number p=0;number n=7;number z=0;helper h=" + e + ";");
        x.change(0, NO);
        x.change(1, MOST);
        due("value of " + e, x.value(4), want);
    }

    static void values(StoreStreams x, int i, int... want) {
        for (int step = 0; step < want.length; step++) due("at(" + i + ", " + step + ")", x.at(i, step), want[step]);
    }
}
