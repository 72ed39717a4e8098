import java.io.IOException;
import java.lang.reflect.Constructor;
import java.lang.reflect.Method;
import java.lang.reflect.Modifier;
import java.nio.file.Files;
import java.nio.file.Path;
import java.util.Set;
import java.util.TreeSet;
import java.util.regex.Matcher;
import java.util.regex.Pattern;

/** The rules of LANGUAGE.md that can be looked at: the face, words that must not stand, sizes. */
public final class LanguageTest {
    private static final String FACE = "ask car chance closed closings days district drive end era fault feed gate has "
            + "head hold image keepers kept late later leave letter lift octet on opens put see seed send status tells "
            + "undo waits was";

    public static void main(String[] args) throws IOException {
        face();
        source(Files.readString(Path.of("src/main/java/CenturyGates.java")));
        Check.finish();
    }

    private static void face() {
        Set<String> open = new TreeSet<>();
        Set<String> hidden = new TreeSet<>();
        for (Method method : CenturyGates.class.getDeclaredMethods()) {
            (Modifier.isPublic(method.getModifiers()) ? open : hidden).add(method.getName());
            boolean fine = Modifier.isPublic(method.getModifiers()) || Modifier.isPrivate(method.getModifiers());
            Check.due(method + " is public or private", fine, true);
        }
        Check.due("the face is " + open, open.equals(Set.of(FACE.split(" "))), true);
        hidden.retainAll(open);
        Check.due("no private method bears a public name: " + hidden, hidden.isEmpty(), true);
        for (Constructor<?> made : CenturyGates.class.getDeclaredConstructors()) {
            Check.due("the constructor takes nothing", made.getParameterCount(), 0);
        }
        for (Class<?> inside : CenturyGates.class.getDeclaredClasses()) {
            Check.due(inside + " is static", Modifier.isStatic(inside.getModifiers()), true);
            Check.due(inside + " has few fields", inside.getDeclaredFields().length <= 20, true);
        }
        Check.due("few classes", CenturyGates.class.getDeclaredClasses().length <= 12, true);
    }

    private static void source(String text) {
        String code = text.replaceAll("(?s)/\\*.*?\\*/", "").replaceAll("//[^\n]*", "");
        String plain = code.replaceAll("\"[^\"]*\"", "\"\"");
        for (String word : ("throw try catch synchronized assert throws native volatile transient import_static "
                + "var record yield sealed System.out System.err Random Thread Exact float double").split(" ")) {
            boolean stands = Pattern.compile("\\b" + Pattern.quote(word) + "\\b").matcher(plain).find();
            Check.due("'" + word + "' stands in the program", stands, false);
        }
        Check.due("a lambda or method reference", plain.contains("->") || plain.contains("::"), false);
        Check.due("a library method that throws", plain.contains("Exact("), false);
        Matcher imports = Pattern.compile("import ([^;]*);").matcher(plain);
        while (imports.find()) {
            Check.due("import " + imports.group(1), imports.group(1).equals("java.util.Arrays"), true);
        }
        Check.due("signs beyond 127", text.chars().filter(sign -> sign > 127).count(), 0);
        methods(plain);
    }

    private static void methods(String plain) {
        int start = -1;
        String[] lines = plain.split("\n");
        for (int k = 0; k < lines.length; k++) {
            if (lines[k].matches("^( {4}| {8})\\S.*\\) \\{$")) {
                start = k;
                Check.due("parameters of" + lines[k], lines[k].chars().filter(c -> c == ',').count() <= 6, true);
            } else if (lines[k].matches("^( {4}| {8})\\}$") && start >= 0) {
                Check.due("lines of" + lines[start], k - start <= 60, true);
                start = -1;
            }
        }
    }
}
