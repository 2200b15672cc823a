/** The edges that section 4 of the terms names: ACTS, KINDS, BODIES, THE TRACE, SHEETS, SHELVES. */
final class EdgesOfHost extends Edges {
    private EdgesOfHost() {
    }

    static void all() {
        actsThatWrap();
        kinds();
        numberAndLetters();
        bodiesByNumber();
        thingReads();
        thingSteps();
        thingUnits();
        thingTells();
        storeSteps();
        delayReads();
        delayTells();
        streamUnits();
        tableReads();
        tableUnits();
        numberReads();
        helperSteps();
        helperTells();
        theTrace();
        sheets();
        shelves();
    }

    /** An ACT of the only THING that matters in a text, with its answer and all of its TRACE. */
    private static void acts(String text, int thing, int act, int x, int answer, int... trace) {
        StoreStreams y = with(text);
        due("shelf(3, 0, " + thing + ")", y.shelf(3, 0, thing), 1);
        String call = "act(3, " + act + ", " + x + ") of THING " + thing + " in " + text;
        due(call, y.act(3, act, x), answer);
        due("many(5) behind " + call, y.many(5), trace.length);
        for (int k = 0; k < trace.length; k++) due("trace(" + k + ") behind " + call, y.trace(k), trace[k]);
        due("trace(" + trace.length + ") behind " + call, y.trace(trace.length), NONE);
    }

    private static void actsThatWrap() {
        says("4", "ACTS of things, with a number x (ints that wrap): 0 reads, 1 steps, 2 units, 3 tells.");
        String text = "number zz=1;store abc=1;";
        // THING 1, a 3: x + 1; (x + 1) * 2 - 3; x / 2; that ^ 3
        acts(text, 1, 0, MOST, NO, 10);
        acts(text, 1, 1, MOST, 0 - 3, 20, 11, 10);
        acts(text, 1, 2, MOST, MOST / 2, 12);
        acts(text, 1, 3, MOST, -3 ^ 3, 13, 20, 11, 10);
        acts(text, 1, 0, NO, NO + 1, 10);
        acts(text, 1, 1, NO, 2 - 3, 20, 11, 10);
        acts(text, 1, 2, NO, -(1 << 30), 12);
        acts("number a=1;number b=1;store c=1;", 2, 2, NO, NO, 12);
        acts("number a=1;table tt=0:0,1:1;", 1, 0, MOST, NO, 50, 10);
        acts("stream aa from out to out=1;", 0, 2, MOST, -(1 << 30), 40, 12);
        acts("stream aa from out to out=1;", 0, 2, MOST - 1, -(1 << 30) ^ 1, 40, 12);
    }

    private static void kinds() {
        says("4", "KINDS of things: 0 thing, 1 store (under thing), 2 delay (under store), 3 stream (under thing), 4 table "
            + "(under stream), 5 number (under thing), 6 helper (under number).");
        String text = "store a=1;delay b=1 of 1;stream c from out to out=1;table d=0:0,1:1;number e=1;helper f=1;";
        int[] kinds = {1, 2, 3, 4, 5, 6};
        String[] taken = {"01", "012", "03", "034", "05", "056"};
        for (int i = 0; i < 6; i++) {
            StoreStreams x = with(text);
            x.shelf(0, 0, i);
            due("thing(" + i + ", 0)", x.thing(i, 0), kinds[i]);
            for (int as = 0; as <= 6; as++) {
                boolean under = taken[i].indexOf((char) ('0' + as)) >= 0;
                due("taken of " + i + " as " + as, x.taken(0, as), under ? i : -13);
            }
        }
    }

    private static void numberAndLetters() {
        says("4", "n: its number, a: how many letters its NAME has.");
        String[] names = {"z", "zz", "zzz", "zzzz", "zzzzz"};
        for (int a = 1; a <= 5; a++) {
            acts("store " + names[a - 1] + "=1;", 0, 1, 0, -a, 20, 11, 10);
            acts(numbers(15) + "store " + names[a - 1] + "=1;", 15, 0, 0, 15, 10);
            acts(numbers(15) + "store " + names[a - 1] + "=1;", 15, 1, 0, 30 - a, 20, 11, 10);
            acts("store " + names[a - 1].replace('z', 'a') + "=1;", 0, 1, 0, -a, 20, 11, 10);
        }
    }

    private static void bodiesByNumber() {
        says("4", "BODIES, each with its number.");
        acts("store a=1;", 0, 3, 0, -1 ^ 1, 13, 20, 11, 10);
        acts("delay a=1 of 1;", 0, 3, 0, (-1 ^ 1) + 0, 31, 13, 20, 11, 30, 10, 12);
        acts("stream a from out to out=1;", 0, 2, 0, 2 ^ 1, 40, 12);
        acts("table a=0:0,1:1;", 0, 2, 0, 2 ^ 1, 51, 40, 12, 50, 10);
        acts("number a=1;", 0, 0, 0, -4, 60, 10);
        acts("helper a=1;", 0, 3, 0, (-8 + 1 ^ 1) * 2, 71, 13, 70, 11, 60, 10, 12);
    }

    private static void thingReads() {
        says("4", "thing: 10 reads: x + n.");
        acts("store a=1;", 0, 0, 9, 9, 10);
        acts("number z=1;store a=1;", 1, 0, 9, 10, 10);
        acts("number z=1;store a=1;", 1, 0, MOST, NO, 10);
        acts("number z=1;stream a from out to out=1;", 1, 0, -1, 0, 10);
    }

    private static void thingSteps() {
        says("4", "11 steps: reads(x) * 2.");
        acts("number z=1;stream a from out to out=1;", 1, 1, 9, 20, 11, 10);
        acts("number z=1;stream a from out to out=1;", 1, 1, 1 << 30, NO + 2, 11, 10);
        acts("number z=1;number a=1;", 1, 1, 9, 12, 11, 60, 10);
        acts("number z=1;table a=0:0,1:1;", 1, 1, 9, -20, 11, 50, 10);
        acts("number z=1;table a=0:0,1:1;", 1, 1, MOST, 0, 11, 50, 10);
    }

    private static void thingUnits() {
        says("4", "12 units: x by (a - n), the rest away (-15 if these are the same; that is all that act() answers then).");
        acts("store abc=1;", 0, 2, 10, 3, 12);
        acts("store abc=1;", 0, 2, -10, -3, 12);
        acts("store abc=1;", 0, 2, 2, 0, 12);
        acts(numbers(3) + "store z=1;", 3, 2, 7, -3, 12);
        acts(numbers(3) + "store z=1;", 3, 2, -7, 3, 12);
        acts(numbers(2) + "store z=1;", 2, 2, NO, NO, 12);
        for (int a = 1; a <= 5; a++) {
            String name = "zzzzz".substring(0, a);
            acts(numbers(a) + "store " + name + "=1;", a, 2, 5, -15, 12);
            acts(numbers(a) + "store " + name + "=1;", a, 2, 0, -15, 12);
            acts(numbers(a) + "stream " + name + " from out to out=1;", a, 2, 5, -15, 40, 12);
            acts(numbers(a) + "table " + name + "=0:0,1:1;", a, 2, 5, -15, 51, 40, 12);
            acts(numbers(a) + "helper " + name + "=1;", a, 1, 5, -15, 70, 11, 60, 10, 12);
            acts(numbers(a) + "helper " + name + "=1;", a, 3, 5, -15, 71, 13, 70, 11, 60, 10, 12);
            acts(numbers(a) + "delay " + name + "=1 of 1;", a, 3, 5, -15, 31, 13, 20, 11, 30, 10, 12);
            acts(numbers(a) + "number " + name + "=1;", a, 3, 5, 2 * (1 + a) ^ a, 13, 11, 60, 10);
        }
        StoreStreams x = with("number z=1;store a=1;");
        x.shelf(0, 0, 1);
        due("parted by 0", x.act(0, 2, 9), -15);
        due("and then not", x.act(0, 0, 9), 10);
    }

    private static void thingTells() {
        says("4", "13 tells: steps(x) ^ a.");
        acts("number z=1;stream abc from out to out=1;", 1, 3, 9, 20 ^ 3, 13, 11, 10);
        acts("number z=1;stream abc from out to out=1;", 1, 3, -9, -16 ^ 3, 13, 11, 10);
        acts("number z=1;table abcde=0:0,1:1;", 1, 3, 9, -20 ^ 5, 13, 11, 50, 10);
        acts("number z=1;number a=1;", 1, 3, 9, 12 ^ 1, 13, 11, 60, 10);
    }

    private static void storeSteps() {
        says("4", "store: 20 steps: super.steps(x) - a.");
        acts("number z=1;store abcd=1;", 1, 1, 9, 16, 20, 11, 10);
        acts("number z=1;store abcd=1;", 1, 1, (1 << 30) - 1, NO - 4, 20, 11, 10);
        acts("number z=1;delay abcd=1 of 1;", 1, 1, 9, 56, 20, 11, 30, 10);
    }

    private static void delayReads() {
        says("4", "delay: 30 reads: super.reads(x) * 3.");
        acts("number z=1;delay a=1 of 1;", 1, 0, 9, 30, 30, 10);
        acts("number z=1;delay a=1 of 1;", 1, 0, MOST, NO, 30, 10);
        acts("number z=1;delay a=1 of 1;", 1, 0, 1 << 30, 3 + (NO | 1 << 30), 30, 10);
    }

    private static void delayTells() {
        says("4", "31 tells: super.tells(x) + units(n).");
        // n 2, a 1: units(2) is 2 / -1
        acts("number y=1;number z=1;delay a=1 of 1;", 2, 3, 9, (65 ^ 1) - 2, 31, 13, 20, 11, 30, 10, 12);
        // n 1, a 3: units(1) is 1 / 2
        acts("number z=1;delay abc=1 of 1;", 1, 3, 9, (57 ^ 3) + 0, 31, 13, 20, 11, 30, 10, 12);
        acts("number z=1;delay a=1 of 1;", 1, 3, 9, -15, 31, 13, 20, 11, 30, 10, 12);
    }

    private static void streamUnits() {
        says("4", "stream: 40 units: super.units(x + 2) ^ 1.");
        acts("stream abc from out to out=1;", 0, 2, 7, 3 ^ 1, 40, 12);
        acts("stream abc from out to out=1;", 0, 2, -8, -2 ^ 1, 40, 12);
        acts("stream a from out to out=1;", 0, 2, MOST, NO + 1 ^ 1, 40, 12);
        acts("stream a from out to out=1;", 0, 2, -2, 1, 40, 12);
    }

    private static void tableReads() {
        says("4", "table: 50 reads: 0 - super.reads(x).");
        acts("number z=1;table a=0:0,1:1;", 1, 0, 9, -10, 50, 10);
        acts("number z=1;table a=0:0,1:1;", 1, 0, -10, 9, 50, 10);
        acts("number z=1;table a=0:0,1:1;", 1, 0, MOST, NO, 50, 10);
    }

    private static void tableUnits() {
        says("4", "51 units: super.units(x) + reads(n).");
        // n 1, a 3: (9 + 2) / 2 ^ 1 is 4, reads(1) is -2
        acts("number z=1;table abc=0:0,1:1;", 1, 2, 9, 2, 51, 40, 12, 50, 10);
        // n 2, a 1: 11 / -1 ^ 1 is -12, reads(2) is -4
        acts("number y=1;number z=1;table a=0:0,1:1;", 2, 2, 9, -16, 51, 40, 12, 50, 10);
        acts("number z=1;table a=0:0,1:1;", 1, 2, 9, -15, 51, 40, 12);
    }

    private static void numberReads() {
        says("4", "number: 60 reads: super.reads(x) - 4.");
        acts("store z=1;number a=1;", 1, 0, 9, 6, 60, 10);
        acts("store z=1;number a=1;", 1, 0, NO, MOST - 2, 60, 10);
        acts("store z=1;helper a=1;", 1, 0, 9, 6, 60, 10);
    }

    private static void helperSteps() {
        says("4", "helper: 70 steps: super.steps(x) + units(a).");
        // n 1, a 3: units(3) is 3 / 2
        acts("store z=1;helper abc=1;", 1, 1, 9, 12 + 1, 70, 11, 60, 10, 12);
        // n 2, a 1: units(1) is 1 / -1
        acts("store y=1;store z=1;helper a=1;", 2, 1, 9, 14 - 1, 70, 11, 60, 10, 12);
        acts("store z=1;helper a=1;", 1, 1, 9, -15, 70, 11, 60, 10, 12);
    }

    private static void helperTells() {
        says("4", "71 tells: super.tells(x) * 2.");
        acts("store z=1;helper abc=1;", 1, 3, 9, (13 ^ 3) * 2, 71, 13, 70, 11, 60, 10, 12);
        acts("store y=1;store z=1;helper a=1;", 2, 3, 9, (13 ^ 1) * 2, 71, 13, 70, 11, 60, 10, 12);
        acts("store z=1;helper a=1;", 1, 3, 9, -15, 71, 13, 70, 11, 60, 10, 12);
    }

    private static void theTrace() {
        says("4", "THE TRACE: numbers of the bodies that ran in the latest act() (one that answers -15, too), as they began "
            + "(left first); the first 30 are kept.");
        StoreStreams x = with("helper ab=1;table c=0:0,1:1;");
        x.shelf(0, 0, 0);
        x.shelf(1, 0, 1);
        due("many(5) ahead of any act()", x.many(5), 0);
        due("act(0, 3, 9)", x.act(0, 3, 9), (10 + 1 ^ 2) * 2);
        int[] longest = {71, 13, 70, 11, 60, 10, 12};
        due("many(5): the longest that there is", x.many(5), 7);
        for (int k = 0; k < 7; k++) due("trace(" + k + ")", x.trace(k), longest[k]);
        due("act(1, 2, 9) answers -15", x.act(1, 2, 9), -15);
        int[] parted = {51, 40, 12};
        due("many(5): of the latest alone", x.many(5), 3);
        for (int k = 0; k < 3; k++) due("trace(" + k + ")", x.trace(k), parted[k]);
        for (int k = 3; k <= 30; k++) due("trace(" + k + ")", x.trace(k), NONE);
        due("act(0, 0, 9)", x.act(0, 0, 9), 5);
        due("many(5)", x.many(5), 2);
        x.keep();
        x.begin();
        x.back();
        x.read();
        due("many(5): only act() changes it", x.many(5), 2);
    }

    private static void sheets() {
        says("4", "SHEETS 0 to 3 are rows of bytes (sort 0), shorts (1), ints (2) or longs (3), 40 at most, or missing (at "
            + "first).");
        StoreStreams x = new StoreStreams();
        for (int sheet = 0; sheet <= 3; sheet++) {
            for (int sort = 0; sort <= 3; sort++) due("item of " + sheet + " at first", x.item(sheet, sort, 0), -11);
        }
        for (int sheet : new int[] {-1, 4}) due("SHEET " + sheet, x.sheet(sheet, 0, 1), BAD);
        int[] held = {(byte) 0x89abcdef, (short) 0x89abcdef, 0x89abcdef, 0x89abcdef};
        for (int sort = 0; sort <= 3; sort++) {
            due("sheet(" + sort + ", " + sort + ", 40)", x.sheet(sort, sort, 40), 1);
            due("sheet(" + sort + ", " + sort + ", 41)", x.sheet(sort, sort, 41), BAD);
            due("put(" + sort + ", 39, ..)", x.put(sort, 39, 0x89abcdef), 1);
            due("put(" + sort + ", 40, ..)", x.put(sort, 40, 1), -12);
        }
        for (int sort = 0; sort <= 3; sort++) {
            for (int as = 0; as <= 3; as++) {
                due("item(" + sort + ", " + as + ", 39)", x.item(sort, as, 39), as == sort ? held[sort] : -13);
            }
            due("item(" + sort + ", " + sort + ", 38)", x.item(sort, sort, 38), 0);
        }
        due("a SHEET of none", x.sheet(0, 2, 0), 1);
        due("item(0, 2, 0)", x.item(0, 2, 0), -12);
    }

    private static void shelves() {
        says("4", "SHELVES 0 to 3 hold a THING (as it is now; nothing, if there is no such THING any more), a SHEET's row (that "
            + "of then), or nothing (at first).");
        StoreStreams x = WORLD.get();
        for (int shelf = 0; shelf <= 3; shelf++) due("taken(" + shelf + ") at first", new StoreStreams().taken(shelf, 0), -11);
        for (int shelf : new int[] {-1, 4}) due("SHELF " + shelf, x.shelf(shelf, 2, 0), BAD);
        x.shelf(0, 0, 0);
        x.shelf(1, 0, 1);
        x.shelf(3, 0, 6);
        due("read()", x.read(), 1);
        due("taken(0, 1): the THING of that number now", x.taken(0, 1), 0);
        due("taken(1, 0): no such THING any more", x.taken(1, 0), -11);
        due("taken(3, 0): no such THING any more", x.taken(3, 0), -11);
        due("act(1, 0, 5)", x.act(1, 0, 5), 0);
        due("taken(2, 12): the row", x.taken(2, 12), 3);
        x.sheet(0, 0, 9);
        due("taken(2, 12): that of then", x.taken(2, 12), 3);
        due("taken(2, 10): that of then", x.taken(2, 10), -13);
        x.sheet(0, -1, 0);
        due("taken(2, 12): that of then", x.taken(2, 12), 3);
        x.shelf(2, 1, 0);
        due("taken(2, 12): nothing", x.taken(2, 12), -11);
        x.shelf(0, 2, 0);
        due("taken(0, 1): nothing", x.taken(0, 1), -11);
        StoreStreams y = with("number n=1;");
        y.shelf(0, 0, 0);
        Check.read(y, "helper abc=1;");
        due("as it is now: a HELPER", y.taken(0, 6), 0);
        due("as it is now: three letters", y.act(0, 2, 9), 3);
        y.read();
        due("nothing of no THINGS", y.taken(0, 0), -11);
    }
}
