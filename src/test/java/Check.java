/** What the tests of the promises share: answers laid beside what is due, and texts fed eight bytes a call. */
final class Check {
    private static int right = 0;
    private static int wrong = 0;
    private static String about = "";

    private Check() {
    }

    /** What the answers from here on are about: it is told with each one that is wrong. */
    static void about(String what) {
        about = "[" + what + "] ";
    }

    /** How many answers there were. */
    static int answers() {
        return right + wrong;
    }

    static void due(String call, long got, long want) {
        if (got == want) {
            right++;
            return;
        }
        wrong++;
        System.out.println(about + call + " answered " + got + ", due is " + want);
    }

    /** Prints how many answers were right, and ends with exit code 1 if one was not. */
    static void end(String test) {
        System.out.println(test + ": " + right + " answers right, " + wrong + " wrong");
        if (wrong != 0) System.exit(1);
    }

    static void feed(StoreStreams x, String text) {
        for (int from = 0; from < text.length(); from += 8) {
            int n = Math.min(8, text.length() - from);
            long eight = 0;
            for (int k = 0; k < n; k++) eight |= (long) text.charAt(from + k) << 8 * k;
            x.feed(eight, n);
        }
    }

    static int read(StoreStreams x, String text) {
        feed(x, text);
        return x.read();
    }

    /** A new object that has read a text without a FAULT. */
    static StoreStreams with(String text) {
        StoreStreams x = new StoreStreams();
        int things = text.length() - text.replace(";", "").length();
        due("read() of " + text, read(x, text), things);
        return x;
    }

    /** A NAME as named() takes it. */
    static int name(String word) {
        int number = 0;
        for (int k = 0; k < word.length(); k++) number = number * 27 + word.charAt(k) - 'a' + 1;
        return number;
    }

    /** A SHEET becomes a row of ints with these items. */
    static void ints(StoreStreams x, int sheet, int... items) {
        due("sheet(" + sheet + ", 2, ..)", x.sheet(sheet, 2, items.length), 1);
        for (int k = 0; k < items.length; k++) due("put(" + sheet + ", " + k + ", ..)", x.put(sheet, k, items[k]), 1);
    }
}
