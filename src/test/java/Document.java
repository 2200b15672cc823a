import java.io.IOException;
import java.nio.file.Files;
import java.nio.file.Path;
import java.util.LinkedHashMap;
import java.util.Map;
import java.util.regex.Matcher;
import java.util.regex.Pattern;

/**
 * The document's sections that tell what the class does, and what of them no test has said yet. A section is "Object",
 * "Terms", "1" to "4" (of the terms) or "Promise 1" to "Promise 38".
 */
final class Document {
    private final Map<String, StringBuilder> unsaid = new LinkedHashMap<>();

    Document(Path file) throws IOException {
        String all = Files.readString(file).replaceAll("(?m)^```\\w*$", "");
        Matcher object = Pattern.compile("An object is used for [^\n]*").matcher(all);
        if (object.find()) put("Object", object.group());
        String terms = all.substring(all.indexOf("\n## Terms"), all.indexOf("\nAhead of the calls"));
        String[] parts = terms.split("======== \\d ");
        put("Terms", parts[0].replace("## Terms", ""));
        for (int k = 1; k < parts.length; k++) put("" + k, parts[k]);
        Matcher promise = Pattern.compile("(?m)^## (Promise \\d+):.*\n\n`[^`]*`: (.*)$").matcher(all);
        while (promise.find()) put(promise.group(1), promise.group(2));
    }

    private void put(String section, String text) {
        unsaid.put(section, new StringBuilder(text.replaceAll("\\s+", " ").trim()));
    }

    int sections() {
        return unsaid.size();
    }

    /** Takes a sentence out of what is unsaid: whether it stood there, and not yet said. */
    boolean says(String section, String sentence) {
        StringBuilder left = unsaid.get(section);
        int at = left == null ? -1 : left.indexOf(sentence);
        if (at < 0) return false;
        left.replace(at, at + sentence.length(), "\n");
        return true;
    }

    /** The words that no test has said, by section; sections that are said whole are not in it. */
    Map<String, String> unsaid() {
        Map<String, String> all = new LinkedHashMap<>();
        unsaid.forEach((section, left) -> {
            String words = left.toString().replaceAll("\\s*\n\\s*", " .. ").trim();
            if (words.matches("(?s).*[A-Za-z0-9].*")) all.put(section, words);
        });
        return all;
    }
}
