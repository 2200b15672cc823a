import java.io.IOException;
import java.lang.reflect.Constructor;
import java.lang.reflect.Field;
import java.lang.reflect.Method;
import java.lang.reflect.Modifier;
import java.nio.file.Files;
import java.nio.file.Path;
import java.util.List;
import java.util.Set;
import java.util.TreeSet;
import java.util.regex.Matcher;
import java.util.regex.Pattern;

/** The document's public face, and those rules of LANGUAGE.md that can be seen without a reader. */
public final class LanguageTest {
    private static final Set<String> FACE = new TreeSet<>(List.of("int feed(long,int)", "int read()", "int fault(int)",
        "int named(int)", "int thing(int,int)", "int value(int)", "int at(int,int)", "int flow(int,int)", "int run(int)",
        "int begin()", "int change(int,int)", "int event(int,int,int)", "long sum(int)", "int moves(int)",
        "int reached(int)", "int rings()", "int ring(int,int)", "int rest(int)", "int swing(int,int)",
        "int pull(int,int,int,int)", "int best(int,int,int,int,int)", "long miss(int,int)",
        "int fit(int,int,int,int,int)", "int prove(int)", "int row(int,int)", "int alterRow(int,int,int)",
        "int judge(int)", "int sheet(int,int,int)", "int put(int,int,int)", "int item(int,int,int)",
        "int shelf(int,int,int)", "int taken(int,int)", "int act(int,int,int)", "int trace(int)", "int many(int)",
        "int keep()", "int back()"));

    public static void main(String[] args) throws IOException {
        face();
        constants();
        classesInside();
        source(Files.readString(Path.of("src/main/java/StoreStreams.java")));
        Check.end("LanguageTest");
    }

    private static void holds(String what, boolean is) {
        Check.due(what, is ? 1 : 0, 1);
    }

    private static void face() {
        Class<?> all = StoreStreams.class;
        holds("the class is public and final", Modifier.isPublic(all.getModifiers()) && Modifier.isFinal(all.getModifiers()));
        Set<String> open = new TreeSet<>();
        for (Method method : all.getDeclaredMethods()) {
            if (Modifier.isPrivate(method.getModifiers())) continue;
            String told = method.toGenericString().replaceAll("StoreStreams\\.", "");
            open.add(told.replaceFirst("^public ", ""));
        }
        holds("the methods " + open + " are those of the document " + FACE, open.equals(FACE));
        Constructor<?>[] made = all.getDeclaredConstructors();
        holds("one public constructor", made.length == 1 && Modifier.isPublic(made[0].getModifiers())
            && made[0].getParameterCount() == 0);
        Set<String> fields = new TreeSet<>();
        for (Field field : all.getDeclaredFields()) {
            if (!Modifier.isPrivate(field.getModifiers())) fields.add(field.getName());
        }
        holds("constants " + fields, fields.equals(Set.of("BAD", "FULL", "NONE", "STATE", "NO")));
    }

    private static void constants() {
        Check.due("BAD", StoreStreams.BAD, -1);
        Check.due("FULL", StoreStreams.FULL, -2);
        Check.due("NONE", StoreStreams.NONE, -3);
        Check.due("STATE", StoreStreams.STATE, -4);
        Check.due("NO", StoreStreams.NO, -2147483648);
    }

    private static void classesInside() {
        Set<String> names = new TreeSet<>();
        for (String one : FACE) names.add(one.replaceAll("^\\w+ |\\(.*", ""));
        Class<?>[] inside = StoreStreams.class.getDeclaredClasses();
        holds("some twelve classes", inside.length + 1 <= 12);
        for (Class<?> one : inside) {
            holds(one + " is static", Modifier.isStatic(one.getModifiers()));
            holds(one + " isn't public", !Modifier.isPublic(one.getModifiers()));
            fieldsOf(one);
            for (Method method : one.getDeclaredMethods()) {
                holds(method + " has a name of its own", !names.contains(method.getName()));
                holds(method + " takes seven at most", method.getParameterCount() <= 7);
            }
        }
        fieldsOf(StoreStreams.class);
        for (Method method : StoreStreams.class.getDeclaredMethods()) {
            if (!Modifier.isPrivate(method.getModifiers())) continue;
            holds(method + " has a name of its own", !names.contains(method.getName()));
        }
    }

    private static void fieldsOf(Class<?> one) {
        int own = 0;
        for (Field field : one.getDeclaredFields()) {
            if (Modifier.isStatic(field.getModifiers())) holds(field + " is final", Modifier.isFinal(field.getModifiers()));
            else own++;
        }
        holds(one + " has some twenty fields: " + own, own <= 20);
    }

    private static void source(String all) {
        String code = all.replaceAll("(?s)/\\*.*?\\*/", "").replaceAll("//[^\n]*", "");
        for (String word : List.of("throw", "throws", "try", "catch", "finally", "synchronized", "assert", "package",
            "double", "float", "Object", "hashCode", "equals", "toString", "goto", "native", "volatile", "transient",
            "static \\{", "->", "::", "@\\w+", "Exact", "var", "null")) {
            Matcher found = Pattern.compile(Character.isLetter(word.charAt(0)) ? "\\b" + word + "\\b" : word).matcher(code);
            holds("no " + word, !found.find());
        }
        Matcher imports = Pattern.compile("import [^\n]*").matcher(code);
        while (imports.find()) Check.due(imports.group(), imports.group().equals("import java.util.Arrays;") ? 0 : 1, 0);
        Matcher library = Pattern.compile("\\b(System|Math|Arrays|Integer|Long|String|StringBuilder)\\.?\\w*").matcher(code);
        while (library.find()) {
            holds(library.group(), Set.of("System.arraycopy", "Math.abs", "Math.max", "Math.min", "Arrays.fill", "Arrays")
                .contains(library.group()));
        }
        for (char c : all.toCharArray()) if (c > 127) Check.due("a sign above 127", c, 0);
        shortMethods(all.split("\n"));
    }

    /** From a line that ends with { to the line with the } below its beginning. */
    private static void shortMethods(String[] lines) {
        Pattern head = Pattern.compile("^( {4}| {8})(?! )[\\w\\[\\] ]+\\([^;=]*\\) \\{$");
        for (int from = 0; from < lines.length; from++) {
            Matcher found = head.matcher(lines[from]);
            if (!found.matches() || lines[from].matches(" +(if|for|while|switch|do|else)\\b.*")) continue;
            int to = from;
            while (to < lines.length && !lines[to].equals(found.group(1) + "}")) to++;
            holds(lines[from].trim() + " is short", to - from <= 60);
        }
    }
}
