import java.util.ArrayList;
import java.util.List;
import java.util.Random;
import java.util.regex.Matcher;
import java.util.regex.Pattern;

/** Draws texts as one would write them, and spoils them. */
final class DrawnText {
    private static final String[] NAMES = {"a", "b", "c", "ab", "lake", "river", "k", "zz", "tab", "d", "e", "f", "g",
        "h", "i", "j", "l", "m", "n", "o", "p", "q"};

    private static final String[] KINDS = {"store", "store", "number", "stream", "stream", "stream", "helper", "table",
        "delay"};

    /** What may stand in the place of a TOKEN: all that the language has, and what is too long or too large for it. */
    private static final String[] TOKENS = {"store", "stream", "helper", "number", "table", "delay", "from", "to", "out",
        "of", "least", "a", "lake", "tab", "river", "rivers", "storey", "outer", "0", "9", "10", "00009", "99999",
        "100000", "000001", ";", ";", "=", "=", "<", "+", "-", "-", "*", "/", "(", "(", ")", ")", "[", "]", ",", ":", " ",
        "A", ".", "\t", "\u00e9", "\u0000"};

    private final Random random;

    /** Now and then all THINGS are short, so that more than 16 of them come. */
    private boolean isPlain = false;

    DrawnText(Random random) {
        this.random = random;
    }

    private int below(int n) {
        return random.nextInt(n);
    }

    private boolean chance(int percent) {
        return below(100) < percent;
    }

    /** A text of 300 bytes at most, which has a FAULT only now and then. */
    StringBuilder text() {
        StringBuilder all = new StringBuilder();
        List<String> ahead = new ArrayList<>();
        int most = 1 + below(17);
        isPlain = chance(10);
        for (int k = 0; k < most; k++) {
            int size = all.length();
            thing(all, ahead);
            if (all.length() > 300) {
                all.setLength(size);
                break;
            }
        }
        return all;
    }

    /** Bytes go, come, or become others. */
    void spoilBytes(StringBuilder all) {
        String signs = "()[]-+*/<=,;:x0 93 \nZ";
        for (int k = 1 + below(3); k > 0 && all.length() > 1; k--) {
            int place = below(all.length());
            if (chance(40)) all.deleteCharAt(place);
            else if (chance(50)) all.setCharAt(place, signs.charAt(below(signs.length())));
            else if (all.length() < 300) all.insert(place, signs.charAt(below(signs.length())));
        }
    }

    /** TOKENS go (one, or some in a row), come, or become others. */
    void spoilTokens(StringBuilder all) {
        List<String> tokens = new ArrayList<>();
        Matcher token = Pattern.compile("(?s)[a-z]+|[0-9]+|.").matcher(all);
        while (token.find()) tokens.add(token.group());
        for (int k = 1 + below(3); k > 0 && tokens.size() > 1; k--) {
            int place = below(tokens.size());
            String other = chance(50) ? TOKENS[below(TOKENS.length)] : tokens.get(below(tokens.size()));
            switch (below(4)) {
                case 0 -> tokens.remove(place);
                case 1 -> tokens.add(place, other);
                case 2 -> tokens.set(place, other);
                default -> tokens.subList(place, Math.min(tokens.size(), place + 2 + below(8))).clear();
            }
        }
        String spoiled = String.join("", tokens);
        all.setLength(0);
        all.append(spoiled, 0, Math.min(300, spoiled.length()));
    }

    private void thing(StringBuilder all, List<String> ahead) {
        String name = NAMES[below(NAMES.length)];
        boolean known = false;
        for (String one : ahead) known |= one.endsWith(" " + name);
        if (known && chance(97)) {
            name = "" + (char) ('a' + below(26)) + (chance(50) ? "" : "" + (char) ('a' + below(26)));
            for (String one : ahead) if (one.endsWith(" " + name)) return;
            if (name.equals("of") || name.equals("to")) return;
        }
        String kind = KINDS[below(isPlain ? 3 : KINDS.length)];
        all.append(kind).append(' ').append(name);
        if (kind.equals("stream")) all.append(" from ").append(end(ahead)).append(" to ").append(end(ahead));
        all.append(chance(10) ? " = " : "=");
        switch (kind) {
            case "store", "number" -> all.append(number());
            case "table" -> corners(all);
            case "delay" -> all.append(1 + below(9)).append(" of ").append(whole(ahead, 2, 0));
            default -> all.append(whole(ahead, 3, 0));
        }
        all.append(';');
        ahead.add(kind + " " + name);
    }

    private String number() {
        if (chance(60)) return "" + below(12);
        return "" + (chance(50) ? below(1000) : below(100000));
    }

    private void corners(StringBuilder all) {
        int x = below(4);
        int many = 2 + below(5);
        for (int k = 0; k < many; k++) {
            if (k > 0) all.append(',');
            all.append(x).append(':').append(number());
            x += (chance(2) ? 0 : 1) + (chance(20) ? below(9000) : below(40));
        }
    }

    private String end(List<String> ahead) {
        List<String> stores = new ArrayList<>();
        for (String one : ahead) if (one.startsWith("store ")) stores.add(one.substring(6));
        if (stores.isEmpty() || chance(20)) return chance(2) && !ahead.isEmpty() ? anyName(ahead) : "out";
        return stores.get(below(stores.size()));
    }

    private String anyName(List<String> ahead) {
        String one = ahead.get(below(ahead.size()));
        return one.substring(one.indexOf(' ') + 1);
    }

    private String whole(List<String> ahead, int room, int open) {
        String left = sum(ahead, room, open);
        return chance(10) ? left + (chance(50) ? "<" : "=") + sum(ahead, room, open) : left;
    }

    private String sum(List<String> ahead, int room, int open) {
        StringBuilder all = new StringBuilder(one(ahead, room, open));
        while (chance(35) && all.length() < 40) all.append("+-*/+-*/**".charAt(below(10))).append(one(ahead, room, open));
        return all.toString();
    }

    private String one(List<String> ahead, int room, int open) {
        int draw = below(100);
        if (room > 0 && (open < 4 || chance(10))) {
            if (draw < 8) return "-" + one(ahead, room - 1, open + 1);
            if (draw < 15) return "(" + whole(ahead, room - 1, open + 1) + ")";
            if (draw < 20) {
                return "least(" + whole(ahead, room - 1, open + 1) + "," + whole(ahead, room - 1, open + 1) + ")";
            }
        }
        if (ahead.isEmpty() || draw < 40) return chance(5) ? "99999" : number();
        String one = ahead.get(below(ahead.size()));
        String name = one.substring(one.indexOf(' ') + 1);
        return one.startsWith("table ") ? name + "[" + whole(ahead, room - 1, open + 1) + "]" : name;
    }
}
