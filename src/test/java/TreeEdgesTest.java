/** TREE, OPEN, THE PLACE, LISTS and CHARACTER: a test for each sentence with a boundary case. */
public final class TreeEdgesTest {
    private static final Check CHECK = new Check();

    /** What comes first, what then needs new nodes, and how many. */
    private static final String[][] NEEDS = {
        {"", "<a>", "1"}, {"", "<b>", "1"}, {"", "<d>", "1"}, {"", "<h>", "1"}, {"", "<k>", "1"},
        {"", "<t>", "1"}, {"", "x", "1"}, {"", " ", "1"}, {"", "&l;", "1"}, {"", "&x", "1"},
        {"", "<1", "1"}, {"", "&l<", "1"}, {"", "</p>", "1"}, {"<t>", "<r>", "1"}, {"<t>", "<c>", "2"},
        {"<t><r>", "<c>", "1"}, {"<t>", "x", "1"}, {"<t>", "</p>", "1"}, {"<b><d>", "</b>", "1"},
        {"<p><b></p>", "x", "2"}, {"<p><b></p>", " ", "2"}, {"<p><b></p>", "<k>", "2"},
        {"<p><b><i></p>", "x", "3"}, {"<p><b><i><s><b></p>", "<a>", "5"}, {"<p><b></p>", "<d>", "1"},
        {"<p><b></p>", "</p>", "1"}, {"x<a>", "y", "1"}};

    public static void main(String[] args) {
        newPage();
        atMost24();
        waysToTheLimit();
        nothingNeeded();
        brokenForGood();
        documentOrder();
        closing();
        inReach();
        thePlace();
        listsAtFirst();
        listsOfOpenCells();
        behindTheLastOpen();
        behindNone();
        replacedInTheList();
        blanks();
        charactersJoin();
        CHECK.end();
    }

    private static void newPage() {
        CHECK.of("a new page has ROOT alone");
        PlainPage page = new PlainPage();
        CHECK.same("nodes", page.nodes(), 1);
        CHECK.same("name(0)", page.name(0), 0);
        CHECK.same("name(1)", page.name(1), -1);
        CHECK.same("open", page.open(), 1);
    }

    private static void atMost24() {
        CHECK.of("There are at most 24, with ROOT");
        PlainPage page = Check.page(Check.repeat("<h>", 22), "");
        CHECK.same("nodes with 22 elements", page.nodes(), 23);
        CHECK.same("html of one more", Check.html(page, "<h>"), 3);
        CHECK.same("nodes with 23 elements", page.nodes(), 24);
        CHECK.same("name(23)", page.name(23), 'h');
        CHECK.same("parent(23)", page.parent(23), 0);
        CHECK.same("html of one too many", Check.html(page, "<h>"), 2);
        CHECK.same("nodes behind it", page.nodes(), -1);
        page = Check.page(Check.repeat("<a>", 22), "");
        CHECK.same("open with 22 elements", page.open(), 23);
        Check.html(page, "<a>");
        CHECK.same("open with 23 elements", page.open(), 24);
        Check.html(page, "<a>");
        CHECK.same("open behind one too many", page.open(), -1);
    }

    private static void waysToTheLimit() {
        CHECK.of("when one more would be needed, the page is BROKEN for good");
        for (String[] way : NEEDS) {
            int had = Check.page(way[0], "").nodes();
            int needed = Integer.parseInt(way[2]);
            for (int before = 23 - needed; before <= 25 - needed; before++) {
                String filled = Check.repeat("<h>", before - had) + way[0];
                PlainPage page = Check.page(filled, "");
                CHECK.same("nodes before " + way[1], page.nodes(), before);
                boolean fits = before + needed <= 24;
                int taken = way[1].length() - (fits ? 0 : 1);
                CHECK.same("taken of " + way[1], Check.html(page, way[1]), taken);
                CHECK.same("nodes behind " + way[0] + way[1] + " at " + before, page.nodes(),
                        fits ? before + needed : -1);
            }
        }
    }

    private static void nothingNeeded() {
        CHECK.of("when one more would be needed");
        String text = Check.repeat("<h>", 22) + "x";
        String[] harmless = {"y", " ", "&l;", "&z", "</d>", "</b>", "</t>", "</r>", "</c>", "</h>",
            "</k>", "</a>", "<r>", "<c>", "<!c>", "</>", "<", "&", "<b"};
        for (String more : harmless) {
            PlainPage page = Check.page(text, "");
            CHECK.same("taken of " + more, Check.html(page, more), more.length());
            CHECK.same("nodes behind " + more, page.nodes(), 24);
        }
        String table = Check.repeat("<h>", 21) + "<t><r>";
        for (String more : new String[] {" ", "</r>", "</r> ", "</t>", "</c>", "</d>", "</b>"}) {
            PlainPage page = Check.page(table, "");
            CHECK.same("taken of " + more + " in an r", Check.html(page, more), more.length());
            CHECK.same("nodes behind " + more + " in an r", page.nodes(), 24);
        }
        String bold = Check.repeat("<h>", 21) + "<p><b>";
        for (String more : new String[] {"</p>", "</b>", "</p></b>", "</p><r>"}) {
            PlainPage page = Check.page(bold, "");
            CHECK.same("taken of " + more + " in a b", Check.html(page, more), more.length());
            CHECK.same("nodes behind " + more + " in a b", page.nodes(), 24);
        }
    }

    private static void brokenForGood() {
        CHECK.of("the page is BROKEN for good");
        PlainPage page = Check.page(Check.repeat("<a>", 24), "");
        CHECK.same("html", Check.html(page, "</a></a></a>x<!>&l;</p>"), 0);
        CHECK.same("css", Check.css(page, "a{d:n}"), 6);
        CHECK.same("layout", page.layout(9), -1);
        CHECK.same("nodes", page.nodes(), -1);
        page.clear();
        CHECK.same("nodes behind clear", page.nodes(), 1);
        CHECK.same("html behind clear", Check.html(page, "x"), 1);
    }

    private static void order(String html, String names) {
        PlainPage page = Check.page(html, "");
        StringBuilder got = new StringBuilder();
        for (int n = 0; n < page.nodes(); n++) {
            int name = page.name(n);
            got.append(name == 0 ? '^' : name == 1 ? (char) page.letter(n, 0) : (char) name);
        }
        CHECK.same("order of " + html, got.toString(), names);
    }

    private static void documentOrder() {
        CHECK.of("They are numbered in document order from 0 (ROOT 0, each node before its children, "
                + "children from the first on).");
        order("", "^");
        order("1<a>2<b>3</a>4", "^1a2b3b4");
        order("<t><c>1</t>2", "^trc12");
        order("<t><c>1</c>2", "^2trc1");
        order("<t><c>1</c><d>2<a>3", "^d2a3trc1");
        order("<b>1<p>2</b>3</p>4", "^b1pb234");
        order("<d><t><c>1</c><b><u>2</b>3", "^dbub23trc1");
    }

    private static void closing() {
        CHECK.of("CLOSING to an open element takes it and all above it from the stack.");
        CHECK.treeOf("<x><d><a><b><k></d>", "x(d(a(b(k()))))", 2);
        CHECK.treeOf("<d>", "d()", 2);
        CHECK.treeOf("<d></d>", "d()", 1);
        CHECK.treeOf("<d></d></d>", "d()", 1);
    }

    private static void inReach() {
        CHECK.of("A name is IN REACH past some names when an open element has it and no open element "
                + "above the topmost such one has one of these names.");
        CHECK.treeOf("<d></d>x", "d() 'x'", 1);
        CHECK.treeOf("<d><t></d>x", "d(t()) 'x'", 1);
        CHECK.treeOf("<d><t><r></d>x", "d(t(r())) 'x'", 1);
        CHECK.treeOf("<d><t><c></d>x", "d(t(r(c('x'))))", 5);
        CHECK.treeOf("<d><t><c><d></d>x", "d(t(r(c(d() 'x'))))", 5);
        CHECK.treeOf("<d><t><c><d></d></d>x", "d(t(r(c(d() 'x'))))", 5);
        CHECK.treeOf("<d><t><c></t></d>x", "d(t(r(c()))) 'x'", 1);
        CHECK.treeOf("<d></u>x", "d('x')", 2);
    }

    private static void thePlace() {
        CHECK.of("THE PLACE: when TOP is a t or r, directly before TABLE, in TABLE's parent; otherwise "
                + "behind the last child of TOP.");
        CHECK.treeOf("<k>x", "k() 'x'", 1);
        CHECK.treeOf("<k><t>x", "k() 'x' t()", 2);
        CHECK.treeOf("<d><k><t><r>x", "d(k() 'x' t(r()))", 4);
        CHECK.treeOf("<t><c><k>x", "t(r(c(k() 'x')))", 4);
        CHECK.treeOf("<t><k><a>x", "k() a('x') t()", 3);
        CHECK.treeOf("<t><c>a</t>b<t>x", "t(r(c('a'))) 'bx' t()", 2);
        CHECK.treeOf("<t><c>a<t>x", "t(r(c('ax' t())))", 5);
        CHECK.treeOf("<t><c>a<t><r>x</t></c>y", "'y' t(r(c('ax' t(r()))))", 3);
        CHECK.treeOf("<t><t><t>x", "'x' t() t() t()", 4);
    }

    private static void listsAtFirst() {
        CHECK.of("ROOT and every c that is open has a list of formatting elements, at first empty.");
        CHECK.treeOf("x", "'x'", 1);
        CHECK.treeOf("<p><b></p><t><c>x", "p(b()) t(r(c('x')))", 4);
        CHECK.treeOf("<t><c><p><b></p><c>x", "t(r(c(p(b())) c('x')))", 4);
        CHECK.treeOf("<t><c><p><b></p><t><c>x", "t(r(c(p(b()) t(r(c('x'))))))", 7);
    }

    private static void listsOfOpenCells() {
        CHECK.of("THE LIST is that of the topmost open c, or else ROOT's.");
        CHECK.treeOf("<p><b></p><t>x", "p(b()) b('x') t()", 3);
        CHECK.treeOf("<p><b></p><t><r>x", "p(b()) b('x') t(r())", 4);
        CHECK.treeOf("<p><b></p><t><c>x</c>y", "p(b()) b('y') t(r(c('x')))", 4);
        CHECK.treeOf("<t><c><p><b></c>x", "'x' t(r(c(p(b()))))", 3);
        CHECK.treeOf("<t><c><p><b></t>x", "t(r(c(p(b())))) 'x'", 1);
        CHECK.treeOf("<t><c><p><b></p><t><c>x</t>y", "t(r(c(p(b()) t(r(c('x'))) b('y'))))", 5);
        CHECK.treeOf("<b><t><c></b>x", "b(t(r(c('x'))))", 5);
    }

    private static void behindTheLastOpen() {
        CHECK.of("if THE LIST has elements behind the last one that is open");
        CHECK.treeOf("<b>x", "b('x')", 2);
        CHECK.treeOf("<b><p>x", "b(p('x'))", 3);
        CHECK.treeOf("<b><p><i></p>x", "b(p(i()) i('x'))", 3);
        CHECK.treeOf("<b><p><i><s></p>x", "b(p(i(s())) i(s('x')))", 4);
        CHECK.treeOf("<b><i><p><s></p>x", "b(i(p(s()) s('x')))", 4);
        CHECK.treeOf("<b><i><d><s></b>x", "b(i()) d(b(s('x')))", 3);
        CHECK.treeOf("<b><i><d><s></b></s>x", "b(i()) d(b(s()) i('x'))", 3);
    }

    private static void behindNone() {
        CHECK.of("(behind none: all)");
        CHECK.treeOf("<p></p>x", "p() 'x'", 1);
        CHECK.treeOf("<p><b></p>x", "p(b()) b('x')", 2);
        CHECK.treeOf("<p><b><i></p>x", "p(b(i())) b(i('x'))", 3);
        CHECK.treeOf("<p><b><i><s><b></p>x", "p(b(i(s(b())))) b(i(s(b('x'))))", 5);
    }

    private static void replacedInTheList() {
        CHECK.of("each of those, in order, is replaced in it by a new element with its name and "
                + "classes, which is put at THE PLACE and opened");
        CHECK.treeOf("<p><bA><iBC></p>x", "p(bA(iBC())) bA(iBC('x'))", 3);
        CHECK.treeOf("<p><b></p>x</b>y", "p(b()) b('x') 'y'", 1);
        CHECK.treeOf("<p><b><i></p>x</i>y</b>z", "p(b(i())) b(i('x') 'y') 'z'", 1);
        CHECK.treeOf("<p><b><i></p>x</b>y", "p(b(i())) b(i('x')) i('y')", 2);
        CHECK.treeOf("<p><b><i></p><t>x", "p(b(i())) b(i('x')) t()", 4);
        CHECK.treeOf("<p><b></p>x<p>y</p>z", "p(b()) b('x' p('y') 'z')", 2);
        CHECK.treeOf("<p><bA></p><s>x</p>", "p(bA()) bA(s('x' p()))", 3);
    }

    private static void blanks() {
        CHECK.of("A blank (32) when TOP is a t or r: nothing. Otherwise renewing");
        CHECK.treeOf(" ", "' '", 1);
        CHECK.treeOf("<t> ", "t()", 2);
        CHECK.treeOf("<t><r> ", "t(r())", 3);
        CHECK.treeOf("<t><c> ", "t(r(c(' ')))", 4);
        CHECK.treeOf("<t><a> ", "a(' ') t()", 3);
        CHECK.treeOf("<t>!", "'!' t()", 2);
        CHECK.treeOf("x<t> y", "'xy' t()", 2);
        CHECK.treeOf("<p><b></p><t> ", "p(b()) t()", 2);
        CHECK.treeOf("<p><b></p><t><r> ", "p(b()) t(r())", 3);
        CHECK.treeOf("<p><b></p> ", "p(b()) b(' ')", 2);
        CHECK.treeOf("<p><b></p><t>!", "p(b()) b('!') t()", 3);
    }

    private static void charactersJoin() {
        CHECK.of("if the node directly before THE PLACE (among the children there) is a text, the "
                + "character is added to it; otherwise a new text with it is put there");
        CHECK.treeOf("xy", "'xy'", 1);
        CHECK.treeOf("x<!>y", "'xy'", 1);
        CHECK.treeOf("x</d>y", "'xy'", 1);
        CHECK.treeOf("x<k>y", "'x' k() 'y'", 1);
        CHECK.treeOf("x<a>y", "'x' a('y')", 2);
        CHECK.treeOf("x<a></a>y", "'x' a() 'y'", 1);
        CHECK.treeOf("<d>x</d>y", "d('x') 'y'", 1);
        CHECK.treeOf("x<t>y", "'xy' t()", 2);
        CHECK.treeOf("x<t></t>y", "'x' t() 'y'", 1);
        CHECK.treeOf("<t>x<a></a>y", "'x' a() 'y' t()", 2);
        CHECK.treeOf("<t><c>x</c>y</t>z", "'y' t(r(c('x'))) 'z'", 1);
    }
}
