import java.lang.reflect.Constructor;
import java.lang.reflect.Field;
import java.lang.reflect.Member;
import java.lang.reflect.Method;
import java.lang.reflect.Modifier;
import java.nio.charset.StandardCharsets;
import java.nio.file.Files;
import java.nio.file.Path;
import java.nio.file.Paths;
import java.util.Arrays;
import java.util.HashSet;
import java.util.List;
import java.util.Set;
import java.util.TreeSet;
import java.util.regex.Matcher;
import java.util.regex.Pattern;

/** The rules of LANGUAGE.md that can be seen from the source and the class file, and the document's face. */
public final class LanguageTest {
    private static int wrong = 0;

    private static void hold(boolean holds, String rule) {
        if (!holds) {
            wrong++;
            System.out.println("LANGUAGE: " + rule);
        }
    }

    public static void main(String[] args) throws Exception {
        Path source = Paths.get(System.getProperty("source", "src/main/java/RingChamber.java"));
        Path doc = Paths.get(System.getProperty("doc", "../shared/DOC.md"));
        face(new String(Files.readAllBytes(doc), StandardCharsets.UTF_8));
        members(RingChamber.class);
        String text = new String(Files.readAllBytes(source), StandardCharsets.UTF_8);
        hold(text.chars().allMatch(c -> c == 10 || c >= 32 && c < 127), "signs of the source");
        words(bare(text));
        lengths(bare(text));
        System.out.println("LanguageTest: " + wrong + " rules broken");
        if (wrong > 0) System.exit(1);
    }

    private static String spell(Member m, Class<?> answer, Class<?>[] takes) {
        StringBuilder s = new StringBuilder(answer == null ? "" : answer.getSimpleName() + " ");
        s.append(answer == null ? "RingChamber" : m.getName()).append("(");
        for (int i = 0; i < takes.length; i++) s.append(i > 0 ? ", " : "").append(takes[i].getSimpleName());
        return s.append(")").toString();
    }

    private static void face(String doc) {
        Set<String> due = new TreeSet<>();
        Matcher m = Pattern.compile("    public ((?:\\w+ )?)(\\w+)\\(([^)]*)\\);").matcher(doc);
        while (m.find()) due.add(m.group(1) + m.group(2) + "(" + m.group(3).replaceAll("(\\w+) \\w+", "$1") + ")");
        Set<String> got = new TreeSet<>();
        for (Method each : RingChamber.class.getDeclaredMethods())
            if (!Modifier.isPrivate(each.getModifiers())) got.add(spell(each, each.getReturnType(), each.getParameterTypes()));
        for (Constructor<?> each : RingChamber.class.getDeclaredConstructors()) got.add(spell(each, null, each.getParameterTypes()));
        hold(due.size() == 60, "the document's face has " + due.size() + " calls");
        hold(due.equals(got), "rule 1, the face: due " + due + " got " + got);
        hold(Modifier.isFinal(RingChamber.class.getModifiers()), "rule 1, the class is final");
    }

    private static void members(Class<?> outer) {
        Set<String> calls = new HashSet<>();
        for (Method each : outer.getDeclaredMethods()) if (Modifier.isPublic(each.getModifiers())) calls.add(each.getName());
        for (Field each : outer.getDeclaredFields())
            hold(each.getName().equals("NONE") || Modifier.isPrivate(each.getModifiers()), "rule 1, field " + each);
        Class<?>[] inner = outer.getDeclaredClasses();
        hold(inner.length + 1 <= 12, "rule 11, " + (inner.length + 1) + " classes");
        Set<Class<?>> all = new HashSet<>(Arrays.asList(inner));
        all.add(outer);
        for (Class<?> each : all) {
            if (each != outer) hold(Modifier.isStatic(each.getModifiers()) && !Modifier.isPublic(each.getModifiers()), "rule 2, " + each);
            int fields = 0;
            for (Field f : each.getDeclaredFields()) {
                if (Modifier.isStatic(f.getModifiers())) hold(Modifier.isFinal(f.getModifiers()), "rule 5, " + f);
                else fields++;
            }
            hold(fields <= 20, "rule 11, fields of " + each + ": " + fields);
            for (Method m : each.getDeclaredMethods()) {
                hold(m.getParameterCount() <= 7, "rule 11, " + m);
                hold(each == outer && Modifier.isPublic(m.getModifiers()) || !calls.contains(m.getName()), "rule 1, " + m);
            }
        }
    }

    /** The source without its comments and the letters of its texts. */
    private static String bare(String text) {
        return text.replaceAll("(?s)/\\*.*?\\*/", "").replaceAll("//[^\n]*", "").replaceAll("\"[^\"]*\"", "\"\"");
    }

    private static void words(String text) {
        List<String> banned = Arrays.asList("throw", "throws", "try", "catch", "synchronized", "assert", "native",
                "volatile", "transient", "double", "float", "Object", "Thread", "Random", "var", "equals", "hashCode", "toString");
        for (String word : banned) hold(!Pattern.compile("\\b" + word + "\\b").matcher(text).find(), "the word " + word);
        hold(!text.contains("->") && !text.contains("::"), "rule 2, a lambda");
        hold(!Pattern.compile("\\w+Exact\\b").matcher(text).find(), "rule 4, Exact");
        Matcher imports = Pattern.compile("import ([\\w.]+);").matcher(text);
        while (imports.find()) hold(Arrays.asList("java.util.Arrays").contains(imports.group(1)), "rule 4, " + imports.group());
        List<String> allowed = Arrays.asList("Math.min", "Math.max", "Arrays.copyOf", "Arrays.fill", "System.arraycopy");
        Matcher library = Pattern.compile("\\b(?:Math|Arrays|System|Integer|Long|String)\\.\\w+").matcher(text);
        while (library.find()) hold(allowed.contains(library.group()), "rule 4, " + library.group());
    }

    /** Methods are what opens a brace behind a ) and ends at the same depth. */
    private static void lengths(String text) {
        String[] lines = text.split("\n");
        Pattern opening = Pattern.compile("^( {4}| {8})(?!if|for|while|switch|else|\\})\\w[^=;]*\\).*\\{$");
        for (int i = 0; i < lines.length; i++) {
            Matcher m = opening.matcher(lines[i]);
            if (!m.find() || lines[i].contains(" class ") || lines[i].startsWith("        if")) continue;
            int end = i;
            while (end < lines.length && !lines[end].equals(m.group(1) + "}")) end++;
            hold(end - i < 60, "rule 11, " + (end - i + 1) + " lines: " + lines[i].trim());
        }
    }
}
