import java.util.function.Supplier;

/** The edges that the document names ahead of section 1 of its terms: 512 calls, and the refusals and their order. */
final class EdgesOfTerms extends Edges {
    private EdgesOfTerms() {
    }

    static void all() {
        fiveHundredAndTwelveCalls();
        refusalsChangeNothing();
        theFirstNamed();
        numbersOfRefusals();
        whatTheHostRefuses();
        noIsARefusal();
        setsByBits();
        cutTowardsNought();
    }

    private static void fiveHundredAndTwelveCalls() {
        says("Object", "An object is used for at most 512 calls after it has been made; what later calls answer is free.");
        StoreStreams x = new StoreStreams();
        due("1", x.feed(0x6e207265626d756eL, 8), 8);
        due("2", x.feed(0x3b373dL, 3), 11);
        due("3", x.read(), 1);
        int was = 7;
        for (int call = 4; call <= 511; call++) {
            due("call " + call, x.change(0, call), was);
            was = call;
        }
        due("call 512", x.value(0), 511);
        StoreStreams y = new StoreStreams();
        for (int call = 1; call <= 511; call++) due("call " + call, y.keep(), 1);
        due("call 512", y.back(), 0);
        StoreStreams z = new StoreStreams();
        String dear = "store a=9;number n=1;stream f from a to a=((((n))))*a;stream g from out to a=f/n;delay d=9 of f+g;"
            + "table t=0:1,9:9;helper h=t[t[t[t[a]]]];stream i from a to out=h*n;";
        Check.read(z, dear);
        int calls = (dear.length() + 7) / 8 + 1;
        int best = z.best(1, 0, 20, 0, 60);
        for (calls++; calls < 511; calls++) due("call " + calls, z.best(1, 0, 20, 0, 60), best);
        due("call 512", z.many(0), 8);
    }

    private static void refusalsChangeNothing() {
        says("Terms", "Answers below 0, where not told otherwise, are refusals; such a call changes nothing (but that THE "
            + "TAPE is used up by read());");
        refused(WORLD, "feed(0, 9)", x -> x.feed(0, 9), BAD);
        refused(WORLD, "run(58)", x -> x.run(58), FULL);
        refused(WORLD, "change(0, 1)", x -> x.change(0, 1), NO);
        refused(WORLD, "event(3, 1, 9)", x -> x.event(3, 1, 9), BAD);
        refused(WORLD, "event(4, 0, 9)", x -> x.event(4, 0, 9), -13);
        refused(WORLD, "prove(7)", x -> x.prove(7), BAD);
        refused(WORLD, "alterRow(4, 1, 9)", x -> x.alterRow(4, 1, 9), NO);
        refused(WORLD, "sheet(0, 2, 41)", x -> x.sheet(0, 2, 41), BAD);
        refused(WORLD, "sheet(0, 2, -1)", x -> x.sheet(0, 2, -1), -14);
        refused(WORLD, "put(0, 3, 9)", x -> x.put(0, 3, 9), -12);
        refused(WORLD, "put(2, 0, 9)", x -> x.put(2, 0, 9), -11);
        refused(WORLD, "shelf(0, 0, 7)", x -> x.shelf(0, 0, 7), BAD);
        refused(() -> with("store a=1;"), "back()", x -> x.back(), NONE);
        StoreStreams x = WORLD.get();
        Check.feed(x, "?");
        due("many(4)", x.many(4), 11);
        due("read()", x.read(), -101);
        due("THE TAPE is used up by it", x.many(4), 0);
        due("read() of no bytes then", x.read(), 0);
        StoreStreams told = with("store a=1;");
        due("thing(0, 2) is below 0 and no refusal", told.thing(0, 2), -9);
    }

    private static void theFirstNamed() {
        says("Terms", "of several the first named:");
        StoreStreams x = new StoreStreams();
        for (int k = 1; k <= 37; k++) x.feed(0, 8);
        x.feed(0, 4);
        due("feed: BAD ahead of FULL", x.feed(0, 9), BAD);
        StoreStreams y = with("store a=1;number n=1;stream f from a to out=1;stream g from out to a=2;");
        due("flow: BAD ahead of -13", y.flow(0, 2), BAD);
        due("ring: BAD ahead of NONE", y.ring(9, -2), BAD);
        due("rest: BAD ahead of NONE", y.rest(201), BAD);
        due("swing: BAD ahead of NONE", y.swing(61, 0), BAD);
        due("swing: BAD ahead of NONE", y.swing(3, 2), BAD);
        for (int k = 0; k < 6; k++) y.event(9, 1, 1);
        due("event: BAD ahead of -13 and FULL", y.event(0, 0, 1), BAD);
        due("event: BAD ahead of FULL", y.event(61, 1, 1), BAD);
        due("event: -13 ahead of FULL", y.event(9, 0, 1), -13);
        y.run(60);
        due("run: BAD ahead of FULL", y.run(61), BAD);
        due("miss: BAD ahead of -13", y.miss(1, 4), BAD);
        due("miss: BAD ahead of -11", y.miss(4, 0), BAD);
        due("miss: -13 ahead of -11", y.miss(1, 0), -13);
        due("sheet: BAD ahead of -14", y.sheet(4, 0, -1), BAD);
        due("sheet: BAD ahead of -14", y.sheet(0, 4, -1), BAD);
        due("put: BAD ahead of -11", y.put(4, -1, 0), BAD);
        due("put: -11 ahead of -12", y.put(0, -1, 0), -11);
        due("item: BAD ahead of -11", y.item(0, 4, 0), BAD);
        due("item: -11 ahead of -12", y.item(0, 2, -1), -11);
        y.sheet(0, 1, 3);
        due("item: BAD ahead of -13", y.item(0, -1, 0), BAD);
        due("item: -13 ahead of -12", y.item(0, 2, 3), -13);
        due("taken: BAD ahead of -11", y.taken(0, 7), BAD);
        y.shelf(0, 0, 0);
        due("taken: BAD ahead of -13", y.taken(0, 14), BAD);
    }

    private static void numbersOfRefusals() {
        says("Terms", "BAD (-1) there is no such thing, or a number is not as told; FULL (-2); NONE (-3); STATE (-4);");
        StoreStreams x = with("store a=1;");
        due("no such THING", x.thing(1, 0), -1);
        due("a number that is not as told", x.thing(0, 4), -1);
        x.run(60);
        due("FULL", x.run(1), -2);
        due("NONE", x.named(2), -3);
        due("BAD", BAD, -1);
        due("FULL", FULL, -2);
        due("NONE", NONE, -3);
        due("STATE", StoreStreams.STATE, -4);
    }

    private static void whatTheHostRefuses() {
        says("Terms", "and what the host refuses: -11 nothing where something is asked, -12 a place outside, -13 a thing of "
            + "another sort or kind, -14 a size below 0, -15 parted by 0.");
        StoreStreams x = with("number z=1;number a=1;");
        due("item(0, 0, 0)", x.item(0, 0, 0), -11);
        due("taken(0, 0)", x.taken(0, 0), -11);
        x.sheet(0, 0, 0);
        due("item(0, 0, 0)", x.item(0, 0, 0), -12);
        due("item(0, 1, 0)", x.item(0, 1, 0), -13);
        due("flow(0, 0)", x.flow(0, 0), -13);
        due("sheet(0, 0, -1)", x.sheet(0, 0, -1), -14);
        x.shelf(0, 0, 1);
        due("act(0, 2, 1)", x.act(0, 2, 1), -15);
    }

    private static void noIsARefusal() {
        says("Terms", "Where a value may be below 0 otherwise than -9, NO (-2147483648) stands for all refusals (a value may "
            + "be this, too).");
        Supplier<StoreStreams> made = () -> with("store a=1;number n=0;helper h=n;");
        refused(made, "value(3)", x -> x.value(3), NO);
        refused(made, "at(3, 0)", x -> x.at(3, 0), NO);
        refused(made, "at(0, 1)", x -> x.at(0, 1), NO);
        refused(made, "change(2, 1)", x -> x.change(2, 1), NO);
        refused(made, "pull(0, 1, 1, 1)", x -> x.pull(0, 1, 1, 1), NO);
        refused(made, "best(1, 0, 1, 1, 1)", x -> x.best(1, 0, 1, 1, 1), NO);
        refused(made, "fit(1, 0, 1, 0, 0)", x -> x.fit(1, 0, 1, 0, 0), NO);
        refused(made, "row(0, 0)", x -> x.row(0, 0), NO);
        refused(made, "alterRow(0, 0, 1)", x -> x.alterRow(0, 0, 1), NO);
        StoreStreams x = made.get();
        due("pull", x.pull(1, NO, 2, 0), NO);
        due("best", x.best(1, NO, NO, 0, 3), NO);
        Check.ints(x, 0, 1);
        due("fit", x.fit(1, NO, NO, 0, 0), NO);
        due("change(1, NO)", x.change(1, NO), 0);
        due("value(2)", x.value(2), NO);
        due("at(2, 0)", x.at(2, 0), NO);
        due("prove(2)", x.prove(2), 1);
        due("row(0, 1)", x.row(0, 1), NO);
        due("alterRow(0, 1, 5)", x.alterRow(0, 1, 5), NO);
        due("row(0, 1) became 5", x.row(0, 1), 5);
        due("change(1, 6)", x.change(1, 6), NO);
        due("value(2) became 6", x.value(2), 6);
        due("NO", NO, -2147483648);
    }

    private static void setsByBits() {
        says("Terms", "Sets are told by bits.");
        StoreStreams x = with("store a=1;number b=1;helper c=b;helper d=c;helper e=d;helper f=e;helper g=f;helper h=g;helper i=h;"
            + "helper j=i;helper k=j;helper l=k;helper m=l;helper n=m;helper o=n;stream p from out to a=b;");
        due("moves(15)", x.moves(15), 1);
        due("moves(1)", x.moves(1), 1 << 2 | 1 << 15);
        due("reached(1)", x.reached(1), 0xfffd);
        due("reached(14)", x.reached(14), 0);
    }

    private static void cutTowardsNought() {
        says("Terms", "Quotients are cut towards 0.");
        worth("7/2", 3);
        worth("-7/2", -3);
        worth("7/-2", -3);
        worth("-7/-2", 3);
        worth("-1/2", 0);
        worth("1/-99999", 0);
        StoreStreams x = with("table t=0:10,3:0;helper h=t[1];store a=5;stream f from a to out=3;stream g from a to out=4;");
        due("10 less 10/3", x.value(1), 7);
        due("3 of 5 by 7", x.flow(3, 0), 2);
        due("4 of 5 by 7", x.flow(4, 0), 2);
        StoreStreams y = with("number abc=1;number b=2;number c=3;number d=4;");
        y.shelf(0, 0, 0);
        due("units: -7 by 3", y.act(0, 2, -7), -2);
        y.shelf(0, 0, 3);
        due("units: 7 by -2", y.act(0, 2, 7), -3);
    }
}
