/** Promises 1, 2, 4 and 9: a new object, html, clear, letter; TYPING. */
public final class TypingTest {
    private static final Check CHECK = new Check();

    public static void main(String[] args) {
        newObject();
        wrongCharacters();
        textLimit();
        cutting();
        effectAtTheLastCharacter();
        layoutGoes();
        clear();
        letters();
        CHECK.end();
    }

    private static void newObject() {
        isNew("a new object", new PlainPage());
    }

    private static void isNew(String what, PlainPage page) {
        CHECK.same(what + ": nodes", page.nodes(), 1);
        CHECK.same(what + ": open", page.open(), 1);
        CHECK.same(what + ": rules", page.rules(), 0);
        CHECK.same(what + ": name(0)", page.name(0), 0);
        CHECK.same(what + ": name(1)", page.name(1), -1);
        CHECK.same(what + ": parent(0)", page.parent(0), -1);
        CHECK.same(what + ": classes(0)", page.classes(0), 0);
        CHECK.same(what + ": lines", page.lines(), -1);
        CHECK.same(what + ": box", page.box(0, 0), -1);
        CHECK.same(what + ": pixel", page.pixel(0, 0), -1);
        CHECK.same(what + ": place", page.place(0, 0), -1);
        CHECK.same(what + ": layout", page.layout(9), 0);
        CHECK.same(what + ": text length", Check.html(page, Check.repeat("a", 170)), 160);
        CHECK.same(what + ": sheet length", Check.css(page, Check.repeat("a", 130)), 120);
    }

    private static void wrongCharacters() {
        PlainPage page = Check.page("a", "");
        page.layout(5);
        for (int c : new int[] {0, 10, 31, 127, 128, 255, 65535}) {
            CHECK.holds("html refuses " + c, !page.html((char) c));
        }
        CHECK.same("layout after refusals", page.lines(), 1);
        CHECK.same("tree after refusals", Check.tree(page), "'a'");
        CHECK.holds("html takes 32", page.html(' '));
        CHECK.holds("html takes 126", page.html('~'));
        CHECK.same("tree after 32 and 126", Check.tree(page), "'a ~'");
    }

    private static void textLimit() {
        PlainPage page = new PlainPage();
        CHECK.same("157 and a tag", Check.html(page, Check.repeat("a", 157) + "<b>"), 160);
        CHECK.same("open at 160", page.open(), 2);
        page.layout(64);
        CHECK.holds("the 161st is refused", !page.html('a'));
        CHECK.same("letters of the text", Check.letters(page, 1).length(), 157);
        CHECK.same("layout after the 161st", page.lines(), 1);
    }

    private static void cut(String html, String tree) {
        CHECK.same(html, Check.tree(Check.page(html, "")), tree);
    }

    private static void cutting() {
        cut("a&l;b&g;c&a;d", "'a<b>c&d'");
        cut("&x", "'&x'");
        cut("<&", "'<'");
        cut("<&l;", "'<<'");
        cut("&l<", "'&l'");
        cut("&l<b>", "'&l' b()");
        cut("&&l;", "'&<'");
        cut("&l&g;", "'&l>'");
        cut("&lx;", "'&lx;'");
        cut("&L;", "'&L;'");
        cut("&;", "'&;'");
        cut("<<b>", "'<' b()");
        cut("<1>", "'<1>'");
        cut("<B>", "'<B>'");
        cut("< b>", "'< b>'");
        cut("a>b;}", "'a>b;}'");
        cut("<b>x", "b('x')");
        cut("<b c/Z=A,B!A'{0>x", "bABZ('x')");
        cut("<p<b>x", "p('x')");
        cut("<d>x</d A<b>y", "d('x') 'y'");
        cut("<!b>x", "'x'");
        cut("<!>x", "'x'");
        cut("<!<b>x>", "'x>'");
        cut("</>x", "'x'");
        cut("</ b>x", "'x'");
        cut("</B>x", "'x'");
        cut("<//b>x", "'x'");
        cut("</<b>x", "'x'");
        cut("<b></!b>x", "b('x')");
        cut("<bA></bB><bC>x", "bA() bC('x')");
    }

    private static void effectAtTheLastCharacter() {
        String[] held = {"<", "<p", "<pA b", "</", "</p", "<!", "<!x", "</ ", "&", "&l", "&g", "&a"};
        for (String part : held) {
            PlainPage page = new PlainPage();
            CHECK.same(part + " taken", Check.html(page, part), part.length());
            CHECK.same("nodes of " + part, page.nodes(), 1);
        }
        PlainPage page = Check.page("<p", "");
        page.html('>');
        CHECK.same("nodes of <p>", page.nodes(), 2);
        CHECK.same("open of <p>", page.open(), 2);
        page = Check.page("&l", "");
        page.html('x');
        CHECK.same("&lx", Check.tree(page), "'&lx'");
    }

    private static void layoutGoes() {
        PlainPage page = Check.page("a", "");
        page.layout(5);
        page.html('<');
        CHECK.same("lines behind html", page.lines(), -1);
        CHECK.same("box behind html", page.box(0, 0), -1);
        CHECK.same("place behind html", page.place(1, 0), -1);
        CHECK.same("pixel behind html", page.pixel(0, 0), -1);
        page.layout(5);
        CHECK.same("lines of the new layout", page.lines(), 1);
    }

    private static void clear() {
        PlainPage page = Check.page("<d><b>x</d>y<t><c><i>z&", "p{c:1}d{");
        page.layout(9);
        page.clear();
        isNew("a cleared object", page);
        page.clear();
        Check.html(page, "l;x<pA>y");
        CHECK.same("typed after clear", Check.tree(page), "'l;x' pA('y')");
        CHECK.same("typed sheet after clear", Check.css(page, "c:1}d{c:2}p{c:3}"), 16);
        CHECK.same("rules after clear", page.rules(), 1);
        page = Check.page("<p A", "p{b:4");
        page.clear();
        Check.html(page, "B><p>");
        CHECK.same("no half tag after clear", Check.tree(page), "'B>' p()");
        Check.css(page, ";b:5}");
        CHECK.same("no half rule after clear", page.rules(), 0);
        page = Check.page("", "x");
        page.clear();
        Check.css(page, "p{}");
        CHECK.same("no half selector after clear", page.rules(), 1);
        page = Check.page("<p><bA>x</p><i>y<t><c><s>z", "");
        page.clear();
        Check.html(page, "1<p>2</p>3<d>4<t><r><c>5");
        CHECK.same("no list after clear", Check.tree(page), "'1' p('2') '3' d('4' t(r(c('5'))))");
        page = Check.page("<p><b>x</p>", "");
        page.clear();
        Check.html(page, "<p>y");
        CHECK.same("nothing to renew after clear", Check.tree(page), "p('y')");
        CHECK.same("letters of a cleared text", page.letter(1, 0), -1);
        page = Check.page("abc", "");
        page.clear();
        Check.html(page, "<p>");
        CHECK.same("letters of an element that was a text", page.letter(1, 0), -1);
        page = Check.page(Check.repeat("<a>", 30), "");
        CHECK.same("broken", page.nodes(), -1);
        page.clear();
        isNew("a broken object, cleared", page);
    }

    private static void letters() {
        PlainPage page = Check.page("ab<p>c&l;", "");
        CHECK.same("letter(1, 0)", page.letter(1, 0), 'a');
        CHECK.same("letter(1, 1)", page.letter(1, 1), 'b');
        CHECK.same("letter(1, 2)", page.letter(1, 2), -1);
        CHECK.same("letter(3, 1)", page.letter(3, 1), '<');
        CHECK.same("letter of an element", page.letter(2, 0), -1);
        CHECK.same("letter of ROOT", page.letter(0, 0), -1);
        int[] wrong = {-1, 4, 24, Integer.MAX_VALUE, Integer.MIN_VALUE};
        for (int n : wrong) {
            CHECK.same("letter of node " + n, page.letter(n, 0), -1);
            CHECK.same("letter " + n + " of a text", page.letter(1, n), -1);
        }
    }
}
