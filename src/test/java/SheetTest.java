/** Promises 3, 11 and 12: css, rules, value; STYLE SHEET. */
public final class SheetTest {
    private static final Check CHECK = new Check();

    public static void main(String[] args) {
        typing();
        selectors();
        ruleLimit();
        fitting();
        declarations();
        strongest();
        defaults();
        wrongQuestions();
        CHECK.end();
    }

    private static void typing() {
        PlainPage page = Check.page("a", "p{c:1}");
        page.layout(5);
        for (int c : new int[] {0, 9, 31, 127, 200, 65535}) {
            CHECK.holds("css refuses " + c, !page.css((char) c));
        }
        CHECK.same("layout after refusals", page.lines(), 1);
        CHECK.holds("css takes 32", page.css(' '));
        CHECK.same("layout after css", page.lines(), -1);
        CHECK.same("box after css", page.box(0, 0), -1);
        CHECK.holds("css takes 126", page.css('~'));
        page = new PlainPage();
        CHECK.same("120 are taken", Check.css(page, Check.repeat(" ", 116) + "p{} x"), 120);
        CHECK.same("rules at 120", page.rules(), 1);
        page = Check.page("a", Check.repeat(" ", 118) + "p{");
        page.layout(5);
        CHECK.holds("the 121st is refused", !page.css('}'));
        CHECK.same("rules behind it", page.rules(), 0);
        CHECK.same("layout behind it", page.lines(), 1);
    }

    private static void selectors() {
        String[] right = {"a", "*", "A", "*A", "aAB", "AA", " a ", "a b", "a  b   c d", "a>b",
            "a > b", "a> b", "a >b", "A A", "a>b c>d", "* *", "A>B", "  a  >  b  ", "zZ"};
        for (String selector : right) {
            CHECK.rulesOf(selector + "{}", 1);
        }
        String[] wrong = {"", " ", "a b c d e", "a>b>c>d>e", "a>", ">a", "a>>b", "a> >b", "ab", "Ab",
            "a*", "**", "A*", "a,b", ".A", "}a", "a}", "a}b", "a;", "1", ">", "a b>", "a1"};
        for (String selector : wrong) {
            CHECK.rulesOf(selector + "{c:1}", 0);
        }
        CHECK.rulesOf("a{", 0);
        CHECK.rulesOf("a{c:1", 0);
        CHECK.rulesOf("a{}b{}c{", 2);
        CHECK.rulesOf("a{{}", 1);
        CHECK.rulesOf("a{b{c}", 1);
        CHECK.rulesOf("a{}}b{}", 1);
        CHECK.rulesOf("}{}a{}", 1);
        CHECK.rulesOf("a{c:1};b{}", 1);
        CHECK.rulesOf("q>A{}q>{}", 1);
        CHECK.rulesOf("q>a{}q>{}", 1);
        CHECK.rulesOf("q>*{}q>{}", 1);
        CHECK.rulesOf("q x{}q{}", 2);
    }

    private static void ruleLimit() {
        CHECK.rulesOf(Check.repeat("a{}", 12), 12);
        CHECK.rulesOf(Check.repeat("a{}", 13), 12);
        CHECK.rulesOf(Check.repeat("a{}", 40), 12);
        CHECK.rulesOf(Check.repeat("1{}", 20) + Check.repeat("a{}", 11), 11);
        CHECK.valueOf("<b>", Check.repeat("a{}", 11) + "b{c:5}", 'c', 5);
        CHECK.valueOf("<b>", Check.repeat("a{}", 12) + "b{c:5}", 'c', 1);
        CHECK.valueOf("<b>", Check.repeat("a{}", 11) + "1{}b{c:5}b{c:6}", 'c', 5);
    }

    private static void fitting() {
        CHECK.fit("<b>", "b", true);
        CHECK.fit("<b>", "i", false);
        CHECK.fit("<b>", "*", true);
        CHECK.fit("<bAC>", "A", true);
        CHECK.fit("<bAC>", "AC", true);
        CHECK.fit("<bAC>", "ABC", false);
        CHECK.fit("<bAC>", "bCA", true);
        CHECK.fit("<bAC>", "iA", false);
        CHECK.fit("<bAC>", "*C", true);
        CHECK.fit("<bZ>", "Z", true);
        CHECK.fit("<d><b>", "d b", true);
        CHECK.fit("<d><a><b>", "d b", true);
        CHECK.fit("<d><b>", "d>b", true);
        CHECK.fit("<d><a><b>", "d>b", false);
        CHECK.fit("<b>", "*>b", false);
        CHECK.fit("<b>", "* b", false);
        CHECK.fit("<b>", "b b", false);
        CHECK.fit("<b>", "b>b", false);
        CHECK.fit("<dA><d><b>", "dA b", true);
        CHECK.fit("<dA><d><b>", "dA>b", false);
        CHECK.fit("<d><a><x><b>", "d>a b", true);
        CHECK.fit("<d><x><a><b>", "d>a b", false);
        CHECK.fit("<d><a><x><a><b>", "d>a b", true);
        CHECK.fit("<d><a><x><a><b>", "d>a>b", false);
        CHECK.fit("<d><x><a><y><b>", "d a b", true);
        CHECK.fit("<d><x><a><y><b>", "d>x a>y b", false);
        CHECK.fit("<d><x><a><y><b>", "d>x a b", true);
        CHECK.fit("<d><x><a><y><b>", "d>x>a>y", false);
        CHECK.fit("<x><a><y><b>", "x>a>y>b", true);
        CHECK.fit("<a><x><a><x><y><b>", "a>x>y b", true);
        CHECK.fit("<t><d>x</t><b>", "t b", false);
    }

    private static void declared(String body, char property, int want) {
        CHECK.valueOf("<z>", "z{" + body + "}", property, want);
    }

    private static void declarations() {
        declared("c:0", 'c', 0);
        declared("c:9", 'c', 9);
        declared("b:9", 'b', 9);
        declared("s:9", 's', 9);
        declared("s:0", 's', 1);
        declared("d:b", 'd', 'b');
        declared("d:n", 'd', 'n');
        declared("d:i", 'd', 'i');
        declared("m:99", 'm', 99);
        declared("m:05", 'm', 5);
        declared("p:7", 'p', 7);
        declared("w:12", 'w', 12);
        declared("w:0", 'w', 0);
        declared(" m : 1 2 ! ", 'm', 12);
        declared("m:1;m:2", 'm', 2);
        declared("m:1;m:", 'm', 1);
        declared(";;m:1;;", 'm', 1);
        declared("{m:1", 'm', 0);
        declared("{;m:1", 'm', 1);
        declared("m:3;b{m:1", 'm', 3);
        String[] wrong = {"m:", "m", "m:100", "m:x", "m:1x", "m:-1", "m:1!!", "m:!", "m!:1", "m1",
            "mm:1", ":1", "m::1", "m:!1", "!m:1", "M:1", "m=1", "m:1:"};
        for (String body : wrong) {
            declared(body, 'm', 0);
        }
        declared("c:12", 'c', 1);
        declared("c:a", 'c', 1);
        declared("b:12", 'b', 0);
        declared("s:11", 's', 1);
        declared("d:x", 'd', 'i');
        declared("d:bb", 'd', 'i');
        declared("d:1", 'd', 'i');
        declared("w:100", 'w', -1);
        declared("c:3;c:12;q:1", 'c', 3);
    }

    private static void strongest() {
        CHECK.valueOf("<b>", "b{m:1}b{m:2}", 'm', 2);
        CHECK.valueOf("<b>", "b{m:1}*{m:2}", 'm', 1);
        CHECK.valueOf("<bA>", "A{m:1}b{m:2}", 'm', 1);
        CHECK.valueOf("<bA>", "bA{m:1}A{m:2}", 'm', 1);
        CHECK.valueOf("<bA>", "A{m:1}*A{m:2}", 'm', 2);
        CHECK.valueOf("<bAB>", "AB{m:1}bA{m:2}", 'm', 1);
        CHECK.valueOf("<bA>", "AA{m:1}bA{m:2}", 'm', 1);
        CHECK.valueOf("<d><a><bA>", "A{m:1}d a b{m:2}", 'm', 1);
        CHECK.valueOf("<dA><bA>", "A A{m:1}bA{m:2}", 'm', 1);
        CHECK.valueOf("<d><b>", "d b{m:1}b{m:2}", 'm', 1);
        CHECK.valueOf("<d><b>", "d>b{m:1}d b{m:2}", 'm', 2);
        CHECK.valueOf("<d><b>", "* b{m:1}b{m:2}", 'm', 2);
        CHECK.valueOf("<bA>", "b{m:1!}A{m:2}", 'm', 1);
        CHECK.valueOf("<bA>", "b{m:1!}A{m:2!}", 'm', 2);
        CHECK.valueOf("<b>", "b{m:1!;m:2}", 'm', 1);
        CHECK.valueOf("<b>", "b{m:1!;m:2!}", 'm', 2);
        CHECK.valueOf("<b>", "b{m:1!}b{m:2!}b{m:3}", 'm', 2);
        CHECK.valueOf("<b>", "b{m:1!;c:2}b{c:3;m:4}", 'c', 3);
        CHECK.valueOf("<bA>", "A{m:1}b{m:2;c:4}", 'c', 4);
        CHECK.valueOf("<b>", "b{m:1}i{m:2!}", 'm', 1);
        CHECK.valueOf("<d><b>", "d{c:5!}b{c:6}", 'c', 6);
        CHECK.valueOf("<bA>", "A,{}b{m:1}A{m:2}", 'm', 2);
        CHECK.valueOf("<b>", "b{m:1}b,{}*{m:2}", 'm', 1);
        CHECK.valueOf("<b>", "A,{}b{m:1}", 'm', 1);
        CHECK.valueOf("<d><b>", "d{c:5;s:4;b:3;m:2;p:1;w:9;d:n}", 'c', 5);
    }

    private static void defaults() {
        CHECK.valueOf("<b>", "", 'c', 1);
        CHECK.valueOf("<b>", "", 's', 1);
        CHECK.valueOf("<b>", "", 'b', 0);
        CHECK.valueOf("<b>", "", 'm', 0);
        CHECK.valueOf("<b>", "", 'p', 0);
        CHECK.valueOf("<b>", "", 'w', -1);
        String css = "d{c:5;s:4;b:3;m:2;p:1;w:9;d:n}";
        CHECK.valueOf("<d><a><b>", css, 'c', 5);
        CHECK.valueOf("<d><a><b>", css, 's', 4);
        CHECK.valueOf("<d><a><b>", css, 'b', 0);
        CHECK.valueOf("<d><a><b>", css, 'm', 0);
        CHECK.valueOf("<d><a><b>", css, 'p', 0);
        CHECK.valueOf("<d><a><b>", css, 'w', -1);
        CHECK.valueOf("<d><a><b>", css, 'd', 'i');
        CHECK.valueOf("<d><a>x</d><b>", css, 'c', 1);
        for (String tag : "p d u l h t".split(" ")) {
            CHECK.valueOf("<" + tag + ">", "", 'd', 'b');
        }
        for (String tag : "p d u l h".split(" ")) {
            CHECK.valueOf("<" + tag + ">", "*{d:i}", 'd', 'i');
        }
        for (String tag : "b i s k a z".split(" ")) {
            CHECK.valueOf("<" + tag + ">", "", 'd', 'i');
        }
        for (String html : "<t> <t><r> <t><c>".split(" ")) {
            CHECK.valueOf(html, "", 'd', 'b');
            CHECK.valueOf(html, "*{d:i}", 'd', 'b');
            CHECK.valueOf(html, "*{d:i!}", 'd', 'b');
            CHECK.valueOf(html, "*{d:n}", 'd', 'n');
        }
    }

    private static void wrongQuestions() {
        PlainPage page = Check.page("x<b>", "*{m:3}");
        CHECK.same("value of ROOT", page.value(0, 'm'), -1);
        CHECK.same("value of a text", page.value(1, 'm'), -1);
        CHECK.same("value of an element", page.value(2, 'm'), 3);
        for (int n : new int[] {-1, 3, 24, Integer.MAX_VALUE, Integer.MIN_VALUE}) {
            CHECK.same("value of node " + n, page.value(n, 'm'), -1);
        }
        for (char property : "aMx: 0".toCharArray()) {
            CHECK.same("value of property " + property, page.value(2, property), -1);
        }
        CHECK.same("value of property 0", page.value(2, (char) 0), -1);
        CHECK.same("value of property 65535", page.value(2, (char) 65535), -1);
        page.css('*');
        CHECK.same("value in half a rule", page.value(2, 'm'), 3);
        Check.css(page, "{m:4");
        CHECK.same("value before the '}'", page.value(2, 'm'), 3);
        page.css('}');
        CHECK.same("value behind the '}'", page.value(2, 'm'), 4);
        Check.html(page, "<dA>");
        CHECK.same("value of a later element", page.value(3, 'm'), 4);
        valuesThatGo();
    }

    /** A rule that fitted fits no more when the element has moved. */
    private static void valuesThatGo() {
        PlainPage page = Check.page("<b><d>x", "b d{m:5;b:3;p:2;w:7;c:4;s:3;d:i}");
        int[] before = {4, 3, 3, 'i', 5, 2, 7};
        int[] behind = {1, 0, 1, 'b', 0, 0, -1};
        for (int i = 0; i < 7; i++) {
            CHECK.same("value before the move", page.value(2, "cbsdmpw".charAt(i)), before[i]);
        }
        Check.html(page, "</b>");
        for (int i = 0; i < 7; i++) {
            CHECK.same("value behind the move", page.value(2, "cbsdmpw".charAt(i)), behind[i]);
        }
    }
}
