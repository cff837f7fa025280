import java.nio.file.Files;
import java.nio.file.Path;
import java.util.regex.Matcher;
import java.util.regex.Pattern;

/** The answers that README.md tells are those of the class. Run from the project's root. */
public final class ReadmeTest {
    private static final Check CHECK = new Check();
    private static final Pattern TYPED = Pattern.compile("for \\(char c : \"(.*)\"\\.toCharArray");
    private static final Pattern CALL =
            Pattern.compile("(?m)^page\\.(\\w+)\\(([^)]*)\\); +// (-?\\d+)(?::|$)");

    public static void main(String[] args) throws Exception {
        String readme = Files.readString(Path.of("README.md"));
        Matcher typed = TYPED.matcher(readme);
        String html = typed.find() ? typed.group(1) : "";
        String css = typed.find() ? typed.group(1) : "";
        PlainPage page = new PlainPage();
        CHECK.same("characters taken of " + html, Check.html(page, html), html.length());
        CHECK.same("characters taken of " + css, Check.css(page, css), css.length());
        CHECK.holds("a text and a sheet are typed", !html.isEmpty() && !css.isEmpty());
        int calls = 0;
        for (Matcher call = CALL.matcher(readme); call.find(); calls++) {
            int got = answer(page, call.group(1), call.group(2).split(", *"));
            CHECK.same(call.group(), got, Integer.parseInt(call.group(3)));
        }
        CHECK.same("calls with their answers", calls, 14);
        CHECK.end();
    }

    private static int answer(PlainPage page, String call, String[] given) throws Exception {
        if (given[0].isEmpty()) {
            return (int) PlainPage.class.getMethod(call).invoke(page);
        }
        int first = Integer.parseInt(given[0]);
        if (given.length == 1) {
            return (int) PlainPage.class.getMethod(call, int.class).invoke(page, first);
        }
        if (given[1].startsWith("'")) {
            return page.value(first, given[1].charAt(1));
        }
        return (int) PlainPage.class.getMethod(call, int.class, int.class)
                .invoke(page, first, Integer.parseInt(given[1]));
    }
}
