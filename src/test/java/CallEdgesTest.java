/** Promises 1 to 10: what each call answers at its limits, refused, broken and behind clear. */
public final class CallEdgesTest {
    private static final Check CHECK = new Check();
    private static final int[] FAR = {Integer.MIN_VALUE, -65536, -2, -1};
    private static final String HTML = "<dA>ab <bC>c</d><k>";
    private static final String CSS = "d{b:2;p:1}b{s:2;c:3}";
    private static final String BREAKING = "<a><a><a><a><a><a><a><a><a><a><a><a>"
            + "<a><a><a><a><a><a><a><a><a><a><a><a>";

    public static void main(String[] args) {
        newObject();
        htmlTakesTheLayout();
        htmlWrongCharacter();
        htmlFull();
        htmlHalf();
        htmlBreaks();
        htmlBroken();
        cssTakesTheLayout();
        cssWrongCharacter();
        cssFull();
        cssHalf();
        cssBroken();
        clearedIsNew();
        clearedWorksAnew();
        nodes();
        names();
        parents();
        classes();
        letters();
        open();
        noNodesInABrokenPage();
        CHECK.end();
    }

    private static void newObject() {
        CHECK.of("PlainPage(): An empty text, an empty sheet, no layout.");
        PlainPage page = new PlainPage();
        isNew("a new object", page);
        CHECK.same("layout of a new object", page.layout(5), 0);
        CHECK.same("lines of a new object", page.lines(), 0);
        CHECK.same("its text takes", Check.html(new PlainPage(), Check.repeat("a", 162)), 160);
        CHECK.same("its sheet takes", Check.css(new PlainPage(), Check.repeat("a", 122)), 120);
    }

    private static void isNew(String what, PlainPage page) {
        CHECK.same("nodes of " + what, page.nodes(), 1);
        CHECK.same("open of " + what, page.open(), 1);
        CHECK.same("rules of " + what, page.rules(), 0);
        CHECK.same("lines of " + what, page.lines(), -1);
        CHECK.same("name(0) of " + what, page.name(0), 0);
        CHECK.same("parent(0) of " + what, page.parent(0), -1);
        CHECK.same("classes(0) of " + what, page.classes(0), 0);
        CHECK.same("letter(0, 0) of " + what, page.letter(0, 0), -1);
        CHECK.same("value(0, 'c') of " + what, page.value(0, 'c'), -1);
        CHECK.same("box(0, 0) of " + what, page.box(0, 0), -1);
        CHECK.same("place(0, 0) of " + what, page.place(0, 0), -1);
        CHECK.same("pixel(0, 0) of " + what, page.pixel(0, 0), -1);
        CHECK.same("name(1) of " + what, page.name(1), -1);
        CHECK.same("parent(1) of " + what, page.parent(1), -1);
        CHECK.same("classes(1) of " + what, page.classes(1), -1);
        CHECK.same("letter(1, 0) of " + what, page.letter(1, 0), -1);
    }

    private static PlainPage laidOut() {
        PlainPage page = Check.page(HTML, CSS);
        page.layout(7);
        return page;
    }

    private static void hasNoLayout(String what, PlainPage page) {
        CHECK.same("lines, " + what, page.lines(), -1);
        CHECK.same("box, " + what, page.box(0, 0), -1);
        CHECK.same("place, " + what, page.place(2, 0), -1);
        CHECK.same("pixel, " + what, page.pixel(0, 0), -1);
    }

    private static void htmlTakesTheLayout() {
        CHECK.of("html: Types a character of the text, and there is no layout any more: true.");
        for (char c : " x<&>~".toCharArray()) {
            PlainPage page = laidOut();
            CHECK.same("lines before", page.lines(), 2);
            CHECK.holds("html of " + c, page.html(c));
            hasNoLayout("behind html of " + c, page);
            CHECK.holds("a layout again", page.layout(7) > 0);
            CHECK.holds("lines of it", page.lines() > 0);
        }
        PlainPage page = laidOut();
        Check.html(page, "<!");
        page.layout(7);
        CHECK.holds("html in a comment", page.html('x'));
        hasNoLayout("behind html in a comment", page);
    }

    /** A character that is refused leaves every answer as it was. */
    private static void refused(String what, PlainPage page, boolean isHtml, int c) {
        String before = Check.answers(page);
        boolean got = isHtml ? page.html((char) c) : page.css((char) c);
        CHECK.holds(what + " refuses " + c, !got);
        CHECK.same(what + " behind " + c, Check.answers(page), before);
    }

    private static void htmlWrongCharacter() {
        CHECK.of("html: False, changing nothing, when c is not 32 .. 126");
        for (int c : new int[] {0, 1, 31, 127, 128, 255, 256, 256 + 'a', 65535}) {
            refused("html in a layout", laidOut(), true, c);
            refused("html without a layout", Check.page(HTML, CSS), true, c);
            refused("html of a new object", new PlainPage(), true, c);
        }
        for (int c : new int[] {32, 126}) {
            CHECK.holds("html takes " + c, laidOut().html((char) c));
        }
    }

    private static void htmlFull() {
        CHECK.of("html: False, changing nothing, when .. 160 were typed");
        PlainPage page = Check.page(Check.repeat("<!>", 52) + "<b>", CSS);
        page.layout(7);
        CHECK.holds("the 160th is taken", page.html('a'));
        page.layout(7);
        refused("html of a full text", page, true, 'x');
        CHECK.same("lines of a full text", page.lines(), 1);
        page = Check.page(Check.repeat("<!>", 52) + "<b>ab", CSS);
        CHECK.same("the text that is full", Check.letters(page, 2), "a");
        CHECK.holds("css of a full text", page.css('x'));
        CHECK.holds("html of a full text", !page.html('x'));
    }

    private static void htmlHalf() {
        CHECK.of("html: False, changing nothing");
        String[][] cut = {{"<", "b>", "b()"}, {"<b", "A>", "bA()"}, {"<bA", ">", "bA()"},
            {"<d></", "d>x", "d() 'x'"}, {"<d></d", ">x", "d() 'x'"}, {"<!", ">x", "'x'"},
            {"</", ">x", "'x'"}, {"&", "l;", "'<'"}, {"&l", ";", "'<'"}, {"&", "x", "'&x'"}};
        for (String[] parts : cut) {
            PlainPage page = Check.page(parts[0], "");
            CHECK.holds("31 is refused", !page.html((char) 31));
            CHECK.holds("127 is refused", !page.html((char) 127));
            Check.html(page, parts[1]);
            CHECK.same(parts[0] + ".." + parts[1], Check.tree(page), parts[2]);
        }
    }

    private static void htmlBreaks() {
        CHECK.of("In the call that breaks the page the answer is false, and there is no layout any more");
        for (String breaking : new String[] {"x", "<a>", "<h>", "</p>", "&l;", "<1"}) {
            PlainPage page = Check.page(Check.repeat("<h>", 23), "h{p:1}");
            int last = breaking.length() - 1;
            CHECK.same("taken before", Check.html(page, breaking.substring(0, last)), last);
            CHECK.holds("layout before", page.layout(9) > 0);
            CHECK.same("nodes before", page.nodes(), 24);
            CHECK.holds("the breaking call answers false", !page.html(breaking.charAt(last)));
            hasNoLayout("behind the breaking call", page);
            CHECK.same("nodes behind the breaking call", page.nodes(), -1);
            CHECK.same("open behind the breaking call", page.open(), -1);
        }
    }

    private static void htmlBroken() {
        CHECK.of("False, changing nothing, when .. the page is broken .. in all later ones nothing "
                + "changes");
        PlainPage page = Check.page(BREAKING, CSS);
        for (char c : "x</a></p>&l;".toCharArray()) {
            CHECK.holds("html of " + c, !page.html(c));
        }
        refused("html of a broken page", page, true, 'x');
        refused("html of a broken page", page, true, 31);
        CHECK.same("rules of a broken page", page.rules(), 2);
        CHECK.same("nodes of a broken page", page.nodes(), -1);
    }

    private static void cssTakesTheLayout() {
        CHECK.of("css: Types a character of the style sheet, and there is no layout any more: true.");
        for (char c : " x{}~".toCharArray()) {
            PlainPage page = laidOut();
            CHECK.same("lines before", page.lines(), 2);
            CHECK.holds("css of " + c, page.css(c));
            hasNoLayout("behind css of " + c, page);
            CHECK.holds("a layout again", page.layout(7) > 0);
            CHECK.same("lines of it", page.lines(), 2);
        }
    }

    private static void cssWrongCharacter() {
        CHECK.of("css: False, changing nothing, when c is not 32 .. 126");
        for (int c : new int[] {0, 1, 31, 127, 128, 255, 256, 256 + 'a', 65535}) {
            refused("css in a layout", laidOut(), false, c);
            refused("css without a layout", Check.page(HTML, CSS), false, c);
            refused("css of a new object", new PlainPage(), false, c);
            refused("css of a broken page", Check.page(BREAKING, CSS), false, c);
        }
        for (int c : new int[] {32, 126}) {
            CHECK.holds("css takes " + c, laidOut().css((char) c));
        }
    }

    private static void cssFull() {
        CHECK.of("css: False, changing nothing, when .. 120 were typed");
        PlainPage page = Check.page("<d>x", Check.repeat(" ", 113) + "d{m:1}");
        page.layout(7);
        CHECK.holds("the 120th is taken", page.css(' '));
        page.layout(7);
        refused("css of a full sheet", page, false, 'x');
        CHECK.same("lines of a full sheet", page.lines(), 1);
        page = Check.page("<d>", Check.repeat(" ", 115) + "d{m:1}");
        CHECK.same("rules of a full sheet", page.rules(), 0);
        CHECK.same("value by a full sheet", page.value(1, 'm'), 0);
        CHECK.holds("html of a full sheet", page.html('x'));
    }

    private static void cssHalf() {
        CHECK.of("css: False, changing nothing");
        for (int cut = 0; cut <= 6; cut++) {
            PlainPage page = Check.page("<d>", "d{m:1}".substring(0, cut));
            CHECK.holds("31 is refused", !page.css((char) 31));
            CHECK.holds("127 is refused", !page.css((char) 127));
            Check.css(page, "d{m:1}".substring(cut));
            CHECK.same("rules with a refusal at " + cut, page.rules(), 1);
            CHECK.same("value with a refusal at " + cut, page.value(1, 'm'), 1);
        }
    }

    private static void cssBroken() {
        CHECK.of("css: .. (Also when the page is broken.)");
        PlainPage page = Check.page(BREAKING, "d{m:1}");
        CHECK.same("rules before", page.rules(), 1);
        CHECK.same("css of a broken page", Check.css(page, "d{m:2"), 5);
        CHECK.same("rules in half a rule", page.rules(), 1);
        CHECK.holds("css of the '}'", page.css('}'));
        CHECK.same("rules behind it", page.rules(), 2);
        CHECK.same("nodes behind it", page.nodes(), -1);
        CHECK.same("108 more", Check.css(page, Check.repeat(" ", 108)), 108);
        CHECK.holds("the 121st is refused", !page.css(' '));
    }

    private static final String[][] STATES = {{"", ""}, {HTML, CSS}, {"<d", "d"}, {"<dA", "d{"},
        {"</", "d{m"}, {"</d", "d{m:1"}, {"<!x", "d>"}, {"&", "1{}"}, {"&l", "1{"}, {"<", "}"},
        {"<p><bA><iB>x</p>", "A{}"}, {"<t><c><p><b>x</p>", "*{d:n}"}, {"<b><d>x</b>", "*{s:9}"},
        {"ab cd", "d{m:1!}b{c:2}"}, {BREAKING, "d{m:1}"}, {BREAKING, ""},
        {Check.repeat("a", 160), ""}, {"", Check.repeat("a", 120)}, {"", Check.repeat("a{}", 13)}};

    private static void clearedIsNew() {
        CHECK.of("clear: All as it was at first.");
        for (String[] state : STATES) {
            for (int width : new int[] {0, 7}) {
                PlainPage page = Check.page(state[0], state[1]);
                page.layout(width);
                page.clear();
                isNew("what had " + state[0] + " and " + state[1] + ", cleared", page);
                CHECK.same("answers", Check.answers(page), Check.answers(new PlainPage()));
                page.clear();
                isNew("what had " + state[0] + " and " + state[1] + ", cleared twice", page);
            }
        }
    }

    private static void clearedWorksAnew() {
        CHECK.of("clear: All as it was at first.");
        String[][] then = {{HTML, CSS}, {"l;x<p>A>y", "m:1}d{c:2}p{c:3}"}, {"A>b</b>c", "{}p{}"},
            {"x<i>y", ";s:3}*{s:2}"}, {"", ""}, {"<b><d>1</b>2<t>3<c>4", "b d{m:1}d>b{p:2}"}};
        for (String[] state : STATES) {
            for (String[] typed : then) {
                PlainPage page = Check.page(state[0], state[1]);
                page.layout(7);
                page.clear();
                Check.html(page, typed[0]);
                Check.css(page, typed[1]);
                PlainPage fresh = Check.page(typed[0], typed[1]);
                String what = typed[0] + " behind " + state[0] + " and " + state[1] + ", cleared";
                CHECK.same("height of " + what, page.layout(7), fresh.layout(7));
                CHECK.same(what, Check.answers(page), Check.answers(fresh));
            }
        }
        PlainPage page = Check.page(Check.repeat("a", 160), Check.repeat("a", 120));
        page.clear();
        CHECK.same("text behind clear", Check.html(page, Check.repeat("b", 161)), 160);
        page = Check.page("", Check.repeat("a", 120));
        page.clear();
        CHECK.same("sheet behind clear", Check.css(page, Check.repeat("b", 121)), 120);
    }

    private static void nodes() {
        CHECK.of("nodes: How many nodes the tree has; NONE when the page is broken.");
        PlainPage page = new PlainPage();
        CHECK.same("nodes of a new page", page.nodes(), 1);
        for (int count = 2; count <= 24; count++) {
            Check.html(page, "<a>");
            CHECK.same("nodes", page.nodes(), count);
        }
        page.html((char) 31);
        CHECK.same("nodes behind a refused call", page.nodes(), 24);
        Check.html(page, "<a>");
        CHECK.same("nodes of a broken page", page.nodes(), -1);
        page.clear();
        CHECK.same("nodes of a cleared page", page.nodes(), 1);
    }

    private static void names() {
        CHECK.of("name: The name of node n as a character code; 0 for ROOT, 1 for a text; NONE when there "
                + "is no node n.");
        PlainPage page = Check.page("x<z>y", "");
        int[] due = {0, 1, 'z', 1};
        for (int n = 0; n < due.length; n++) {
            CHECK.same("name of " + n, page.name(n), due[n]);
        }
        for (int n : new int[] {4, 5, 23, 24, 25, 65536, Integer.MAX_VALUE}) {
            CHECK.same("name of " + n, page.name(n), -1);
        }
        for (int n : FAR) {
            CHECK.same("name of " + n, page.name(n), -1);
        }
        for (char name = 'a'; name <= 'z'; name++) {
            String html = name == 'r' || name == 'c' ? "<t><" + name + ">" : "<" + name + ">";
            page = Check.page(html, "");
            CHECK.same("name of the last", page.name(page.nodes() - 1), name);
        }
    }

    private static void parents() {
        CHECK.of("parent: The number of the parent of node n; NONE for ROOT, or when there is no node n.");
        PlainPage page = Check.page("x<z>y</z><t>v<c>w", "");
        int[] due = {-1, 0, 0, 2, 0, 0, 5, 6, 7};
        CHECK.same("nodes", page.nodes(), due.length);
        for (int n = 0; n < due.length; n++) {
            CHECK.same("parent of " + n, page.parent(n), due[n]);
        }
        for (int n : new int[] {9, 10, 23, 24, 25, 65536, Integer.MAX_VALUE}) {
            CHECK.same("parent of " + n, page.parent(n), -1);
        }
        for (int n : FAR) {
            CHECK.same("parent of " + n, page.parent(n), -1);
        }
    }

    private static void classes() {
        CHECK.of("classes: .. bit k for the k-th capital letter, from 0; 0 for ROOT and texts; NONE when "
                + "there is no node n.");
        PlainPage page = Check.page("x<zAZ>y<z>", "");
        int[] due = {0, 0, 1 + (1 << 25), 0, 0};
        for (int n = 0; n < due.length; n++) {
            CHECK.same("classes of " + n, page.classes(n), due[n]);
        }
        for (int n : new int[] {5, 6, 23, 24, 25, 65536, Integer.MAX_VALUE}) {
            CHECK.same("classes of " + n, page.classes(n), -1);
        }
        for (int n : FAR) {
            CHECK.same("classes of " + n, page.classes(n), -1);
        }
        CHECK.of("classes: (of one that renewing or adoption made those of its model)");
        CHECK.treeOf("<p><bAZ></p>x", "p(bAZ()) bAZ('x')");
        CHECK.treeOf("<bAZ><d>x</b>", "bAZ() d(bAZ('x'))");
        CHECK.treeOf("<p><bAZ></p>x<p>y</b>", "p(bAZ()) bAZ('x') p(bAZ('y'))");
    }

    private static void letters() {
        CHECK.of("letter: Character k (from 0) of text n; NONE when n is no text or it has no such "
                + "character.");
        PlainPage page = Check.page("ab&g;<z>~", "");
        CHECK.same("letter(1, 0)", page.letter(1, 0), 'a');
        CHECK.same("letter(1, 1)", page.letter(1, 1), 'b');
        CHECK.same("letter(1, 2)", page.letter(1, 2), '>');
        CHECK.same("letter(1, 3)", page.letter(1, 3), -1);
        CHECK.same("letter(3, 0)", page.letter(3, 0), '~');
        CHECK.same("letter(3, 1)", page.letter(3, 1), -1);
        CHECK.same("letter(0, 0)", page.letter(0, 0), -1);
        CHECK.same("letter(2, 0)", page.letter(2, 0), -1);
        CHECK.same("letter(4, 0)", page.letter(4, 0), -1);
        for (int far : new int[] {160, 161, 65536, Integer.MAX_VALUE, -1, -2, Integer.MIN_VALUE}) {
            CHECK.same("letter(1, " + far + ")", page.letter(1, far), -1);
            CHECK.same("letter(" + far + ", 0)", page.letter(far, 0), -1);
        }
    }

    private static void open() {
        CHECK.of("open: How many elements are open, ROOT among them; NONE when the page is broken.");
        PlainPage page = new PlainPage();
        CHECK.same("open of a new page", page.open(), 1);
        for (int count = 2; count <= 24; count++) {
            Check.html(page, "<a>");
            CHECK.same("open", page.open(), count);
        }
        Check.html(page, "</a>");
        CHECK.same("open behind an end tag", page.open(), 23);
        page.html((char) 31);
        CHECK.same("open behind a refused call", page.open(), 23);
        Check.html(page, "<h>");
        CHECK.same("open of a broken page", page.open(), -1);
        page.clear();
        CHECK.same("open of a cleared page", page.open(), 1);
    }

    private static void noNodesInABrokenPage() {
        CHECK.of("(In a broken page there are no nodes for the calls that follow.)");
        PlainPage page = Check.page("xy" + BREAKING, "*{m:3}");
        for (int n = -1; n <= 25; n++) {
            CHECK.same("name of " + n, page.name(n), -1);
            CHECK.same("parent of " + n, page.parent(n), -1);
            CHECK.same("classes of " + n, page.classes(n), -1);
            CHECK.same("letter of " + n, page.letter(n, 0), -1);
            CHECK.same("value of " + n, page.value(n, 'm'), -1);
            CHECK.same("box of " + n, page.box(n, 2), -1);
            CHECK.same("place of " + n, page.place(n, 0), -1);
        }
    }
}
