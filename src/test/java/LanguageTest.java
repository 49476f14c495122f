import java.lang.reflect.Field;
import java.lang.reflect.Method;
import java.lang.reflect.Modifier;
import java.nio.file.Files;
import java.nio.file.Path;
import java.util.List;
import java.util.Set;
import java.util.TreeSet;
import java.util.regex.Matcher;
import java.util.regex.Pattern;

/** What can be seen at a glance of the rules of LANGUAGE.md; the test is run in the project's folder. */
public final class LanguageTest {
    private static final Set<String> FACE = new TreeSet<>(List.of("append", "readPipeline", "configure", "push", "tick", "isQuiet",
        "checkpoint", "fail", "rescale", "count", "operator", "instance", "channel", "state", "savedState", "latency", "plain",
        "explain", "explanation", "write", "written", "clear"));
    private static final Set<String> CONSTANTS = new TreeSet<>(List.of("NONE", "BAD_ARGUMENT", "FULL", "BEGUN", "BUSY"));
    private static final String[] FORBIDDEN = {"throws?", "try", "catch", "synchronized", "assert", "while", "->", "::", "instanceof",
        "\\w+Exact", "hashCode", "toString", "equals", "System\\.(?!arraycopy)\\w+", "Thread", "Random", "protected", "volatile"};
    private static int wrong = 0;

    public static void main(String[] args) throws Exception {
        String source = Files.readString(Path.of("src/main/java/PipelineSimulator.java"));
        words(source);
        lengths(source);
        face();
        if (wrong > 0) {
            System.exit(1);
        }
    }

    private static void due(String rule, boolean kept) {
        if (!kept) {
            wrong++;
            System.out.println("not kept: " + rule);
        }
    }

    private static void words(String source) {
        String code = source.replaceAll("(?s)/\\*.*?\\*/", "").replaceAll("//.*", "");
        for (String word : FORBIDDEN) {
            String bounded = Character.isLetter(word.charAt(0)) ? "\\b" + word + "\\b" : word;
            due("no " + word, !Pattern.compile(bounded).matcher(code).find());
        }
        Matcher imports = Pattern.compile("import (.*);").matcher(code);
        while (imports.find()) {
            due("the import " + imports.group(1), imports.group(1).equals("java.util.Arrays"));
        }
        due("signs up to 127", source.chars().allMatch(c -> c < 128));
        int classes = code.split("\\bclass\\b", -1).length - 1;
        due("at most 12 classes, not " + classes, classes <= 12);
    }

    private static void lengths(String source) {
        String[] lines = source.split("\n");
        for (int start = 0; start < lines.length; start++) {
            Matcher head = Pattern.compile("^( {4}| {8})(?=\\S)[\\w\\[\\] ]+\\(.*\\) \\{$").matcher(lines[start]);
            if (!head.find()) {
                continue;
            }
            int end = start;
            while (!lines[end].equals(head.group(1) + "}")) {
                end++;
            }
            due("at most 60 lines: " + lines[start], end - start < 60);
            due("at most 7 parameters: " + lines[start], lines[start].split(",").length <= 7);
        }
    }

    private static void face() {
        Class<?> type = PipelineSimulator.class;
        due("a final class", Modifier.isFinal(type.getModifiers()));
        Set<String> methods = new TreeSet<>();
        for (Method method : type.getDeclaredMethods()) {
            boolean open = Modifier.isPublic(method.getModifiers());
            due("public or private: " + method, open || Modifier.isPrivate(method.getModifiers()));
            due("a name of its own: " + method, open || !FACE.contains(method.getName()));
            if (open) {
                methods.add(method.getName());
            }
        }
        due("the methods of the face", methods.equals(FACE));
        Set<String> constants = new TreeSet<>();
        for (Field field : type.getDeclaredFields()) {
            boolean open = Modifier.isPublic(field.getModifiers());
            due("public or private: " + field, open || Modifier.isPrivate(field.getModifiers()));
            if (open) {
                constants.add(field.getName());
            }
        }
        due("the constants of the face", constants.equals(CONSTANTS));
        due("one constructor", type.getDeclaredConstructors().length == 1);
        for (Class<?> inside : type.getDeclaredClasses()) {
            inside(inside);
        }
    }

    private static void inside(Class<?> inside) {
        due("static: " + inside, Modifier.isStatic(inside.getModifiers()));
        due("private: " + inside, Modifier.isPrivate(inside.getModifiers()));
        for (Method method : inside.getDeclaredMethods()) {
            due("a name of its own: " + method, !FACE.contains(method.getName()));
        }
        int fields = 0;
        for (Field field : inside.getDeclaredFields()) {
            boolean constant = Modifier.isStatic(field.getModifiers());
            due("a final constant: " + field, !constant || Modifier.isFinal(field.getModifiers()));
            fields += constant ? 0 : 1;
        }
        due("at most 20 fields: " + inside, fields <= 20);
    }
}
