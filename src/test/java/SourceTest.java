import java.nio.file.Files;
import java.nio.file.Path;
import java.util.ArrayList;
import java.util.List;
import java.util.regex.Matcher;
import java.util.regex.Pattern;

/** The rules of LANGUAGE.md that can be seen in the source's text. Run from the project's root. */
public final class SourceTest {
    private static final Check CHECK = new Check();
    private static final String[] FORBIDDEN = {"throw", "throws", "try", "catch", "synchronized",
        "assert", "protected", "package", "volatile", "hashCode", "toString", "System.out", "Random",
        "Thread", "currentTimeMillis", "nanoTime"};
    private static final Pattern HEAD = Pattern.compile(
            "^ +(?:public |private |static |final )*[\\w\\[\\]]+ (\\w+)\\(([^)]*)\\) \\{$");

    public static void main(String[] args) throws Exception {
        List<String> lines = new ArrayList<>();
        for (String line : Files.readAllLines(Path.of("src/main/java/PlainPage.java"))) {
            boolean isComment = line.trim().startsWith("*") || line.trim().startsWith("/*");
            lines.add(isComment ? "" : line);
        }
        forbiddenWords(String.join("\n", lines));
        methods(lines);
        CHECK.end();
    }

    private static void forbiddenWords(String source) {
        for (String word : FORBIDDEN) {
            CHECK.holds("no " + word, !Pattern.compile("\\b" + word + "\\b").matcher(source).find());
        }
        CHECK.holds("no lambda", !source.contains("->"));
        CHECK.holds("no method reference", !source.contains("::"));
        CHECK.holds("only Arrays is imported",
                !source.replace("import java.util.Arrays;", "").contains("import "));
        Matcher classes = Pattern.compile("\\b(class|enum|record|interface) \\w+").matcher(source);
        int count = 0;
        while (classes.find()) {
            count++;
        }
        CHECK.holds("at most twelve classes", count <= 12);
        Matcher inside = Pattern.compile("\n    .*\\bclass ").matcher(source);
        while (inside.find()) {
            CHECK.holds(inside.group().trim(), inside.group().contains("static final class"));
        }
    }

    private static void methods(List<String> lines) {
        List<String> face = new ArrayList<>();
        for (String line : lines) {
            Matcher head = HEAD.matcher(line);
            if (head.matches() && line.contains("public ")) {
                face.add(head.group(1));
            }
        }
        CHECK.same("methods of the face, with the constructor", face.size(), 17);
        for (int i = 0; i < lines.size(); i++) {
            Matcher head = HEAD.matcher(lines.get(i));
            if (head.matches()) {
                String name = head.group(1);
                CHECK.holds("the name " + name, lines.get(i).contains("public ")
                        || !face.contains(name));
                CHECK.holds("parameters of " + name, head.group(2).split(",").length <= 7);
                CHECK.holds("length of " + name, length(lines, i) <= 60);
            }
        }
    }

    private static int length(List<String> lines, int head) {
        String indent = lines.get(head).replaceAll("\\S.*", "");
        for (int i = head; i < lines.size(); i++) {
            if (lines.get(i).equals(indent + "}")) {
                return i - head + 1;
            }
        }
        return Integer.MAX_VALUE;
    }
}
