/** Promises 2, 5, 6, 7, 8 and 10: what tags and characters do to the tree. */
public final class TreeTest {
    private static final Check CHECK = new Check();

    public static void main(String[] args) {
        questions();
        blocksAndParagraphs();
        listItems();
        tables();
        fostering();
        endTags();
        formatting();
        listsOfCells();
        adoption();
        broken();
        CHECK.end();
    }

    private static void questions() {
        PlainPage page = Check.page("<dA><pBZ>x</d><k>", "");
        int[][] wanted = {{0, -1, 0}, {'d', 0, 1}, {'p', 1, 2 + (1 << 25)}, {1, 2, 0}, {'k', 0, 0}};
        CHECK.same("nodes", page.nodes(), 5);
        for (int n = 0; n < 5; n++) {
            CHECK.same("name of " + n, page.name(n), wanted[n][0]);
            CHECK.same("parent of " + n, page.parent(n), wanted[n][1]);
            CHECK.same("classes of " + n, page.classes(n), wanted[n][2]);
        }
        for (int n : new int[] {-1, 5, 23, 24, Integer.MAX_VALUE, Integer.MIN_VALUE}) {
            CHECK.same("name of " + n, page.name(n), -1);
            CHECK.same("parent of " + n, page.parent(n), -1);
            CHECK.same("classes of " + n, page.classes(n), -1);
        }
    }

    private static void blocksAndParagraphs() {
        CHECK.treeOf("<p>a<p>b", "p('a') p('b')", 2);
        for (String block : "d u l t".split(" ")) {
            CHECK.treeOf("<p>a<x><" + block + ">", "p('a' x()) " + block + "()", 2);
        }
        CHECK.treeOf("<p>a<h>b", "p('a') h() 'b'", 1);
        CHECK.treeOf("<p>a<x>b<k>c", "p('a' x('b' k() 'c'))", 3);
        CHECK.treeOf("<d>a<d>b", "d('a' d('b'))", 3);
        CHECK.treeOf("<d><p>a<d>b", "d(p('a') d('b'))", 3);
        CHECK.treeOf("<k><h>", "k() h()", 1);
        CHECK.treeOf("<z>a<q>b", "z('a' q('b'))", 3);
    }

    private static void listItems() {
        CHECK.treeOf("<l>a<l>b", "l('a') l('b')", 2);
        CHECK.treeOf("<u><l>a<l>b", "u(l('a') l('b'))", 3);
        CHECK.treeOf("<u><l><u><l>a", "u(l(u(l('a'))))", 5);
        CHECK.treeOf("<u><l>a<u>b<u>c<l>d", "u(l('a' u('b' u('c' l('d')))))", 6);
        CHECK.treeOf("<l><d>a<l>b", "l(d('a')) l('b')", 2);
        CHECK.treeOf("<l><p>a<l>b", "l(p('a')) l('b')", 2);
        CHECK.treeOf("<l>a<t><c><l>b", "l('a' t(r(c(l('b')))))", 6);
        CHECK.treeOf("<t><c><l>a<l>b", "t(r(c(l('a') l('b'))))", 5);
    }

    private static void tables() {
        CHECK.treeOf("<r>x<c>y", "'xy'", 1);
        CHECK.treeOf("<p>x<r>y", "p('xy')", 2);
        CHECK.treeOf("<t><r><c>a<c>b<r><c>d", "t(r(c('a') c('b')) r(c('d')))", 4);
        CHECK.treeOf("<t><c>a", "t(r(c('a')))", 4);
        CHECK.treeOf("<t><cA>a<cB>b", "t(r(cA('a') cB('b')))", 4);
        CHECK.treeOf("<t><rA><c><d><x>a<c>b", "t(rA(c(d(x('a'))) c('b')))", 4);
        CHECK.treeOf("<t><c><d>a<rB>", "t(r(c(d('a'))) rB())", 3);
        CHECK.treeOf("<t><c>a<t><c>b<c>d", "t(r(c('a' t(r(c('b') c('d'))))))", 7);
        CHECK.treeOf("<t><c>a<t><r>b", "t(r(c('ab' t(r()))))", 6);
        CHECK.treeOf("<t><c>a<t>b<c>d", "t(r(c('ab' t(r(c('d'))))))", 7);
        CHECK.treeOf("<t><c>a<t></t><c>b", "t(r(c('a' t()) c('b')))", 4);
    }

    private static void fostering() {
        CHECK.treeOf("<t>x<r>y<c>z", "'xy' t(r(c('z')))", 4);
        CHECK.treeOf("<t> <r> <c> ", "t(r(c(' ')))", 4);
        CHECK.treeOf("a<t>b", "'ab' t()", 2);
        CHECK.treeOf("<t>x y", "'xy' t()", 2);
        CHECK.treeOf("<d><t>x</t>y", "d('x' t() 'y')", 2);
        CHECK.treeOf("<t><d>x", "d('x') t()", 3);
        CHECK.treeOf("<t><a>x<c>y", "a('x') t(r(c('y')))", 4);
        CHECK.treeOf("<t><k>x", "k() 'x' t()", 2);
        CHECK.treeOf("<t><h>x", "h() 'x' t()", 2);
        CHECK.treeOf("<t><t>x", "'x' t() t()", 3);
        CHECK.treeOf("<t><p>a<p>b", "p('a') p('b') t()", 3);
        CHECK.treeOf("<t><r><x>a<r>b", "x('a') 'b' t(r() r())", 3);
        CHECK.treeOf("<t></p>", "p() t()", 2);
        CHECK.treeOf("<t><c>x</c>y", "'y' t(r(c('x')))", 3);
        CHECK.treeOf("<t><b>x<r>y", "b('x') b('y') t(r())", 4);
        CHECK.treeOf("<b>x<t>y", "b('xy' t())", 3);
    }

    private static void endTags() {
        CHECK.treeOf("x</p>y", "'x' p() 'y'", 1);
        CHECK.treeOf("<p>x<a>y</p>z", "p('x' a('y')) 'z'", 1);
        CHECK.treeOf("<pA>x</pB></pC>", "pA('x') p()", 1);
        CHECK.treeOf("<d><a>x</d>y", "d(a('x')) 'y'", 1);
        CHECK.treeOf("<u><d>x</u>y", "u(d('x')) 'y'", 1);
        CHECK.treeOf("<d></u>x", "d('x')", 2);
        CHECK.treeOf("<d><t><c></d>x", "d(t(r(c('x'))))", 5);
        CHECK.treeOf("<u><t><c></u>x", "u(t(r(c('x'))))", 5);
        CHECK.treeOf("<d><d></d>x", "d(d() 'x')", 2);
        CHECK.treeOf("<l><d></l>x", "l(d()) 'x'", 1);
        CHECK.treeOf("<l><u></l>x", "l(u('x'))", 3);
        CHECK.treeOf("<l><t><c></l>x", "l(t(r(c('x'))))", 5);
        CHECK.treeOf("<t><c><d></t>x", "t(r(c(d()))) 'x'", 1);
        CHECK.treeOf("</t>x", "'x'", 1);
        CHECK.treeOf("<t><r></r>x", "'x' t(r())", 2);
        CHECK.treeOf("<t><c><d></r>x", "'x' t(r(c(d())))", 2);
        CHECK.treeOf("<t><c><t></r>x", "t(r(c('x' t())))", 5);
        CHECK.treeOf("<t></r>x", "'x' t()", 2);
        CHECK.treeOf("</r></c>x", "'x'", 1);
        CHECK.treeOf("<t><c><d></c>x", "'x' t(r(c(d())))", 3);
        CHECK.treeOf("<t><c><t></c>x", "t(r(c('x' t())))", 5);
        CHECK.treeOf("<d></h></k>x", "d('x')", 2);
        CHECK.treeOf("<a><x>y</a>z", "a(x('y')) 'z'", 1);
        CHECK.treeOf("<a><a></a>y", "a(a() 'y')", 2);
        CHECK.treeOf("</a>y", "'y'", 1);
        for (String block : "p d u l".split(" ")) {
            CHECK.treeOf("<a><" + block + "></a>y", "a(" + block + "('y'))", 3);
        }
        CHECK.treeOf("<a><t></a>y", "a('y' t())", 3);
        CHECK.treeOf("<a><t><r></a>y", "a('y' t(r()))", 4);
        CHECK.treeOf("<a><t><c></a>y", "a(t(r(c('y'))))", 5);
    }

    private static void formatting() {
        CHECK.treeOf("<p><b>x<p>y", "p(b('x')) p(b('y'))", 3);
        CHECK.treeOf("<p><bAC>x<p>y", "p(bAC('x')) p(bAC('y'))", 3);
        CHECK.treeOf("<p><b>x<p>yz", "p(b('x')) p(b('yz'))", 3);
        CHECK.treeOf("<p><b>x<p>y</b>z", "p(b('x')) p(b('y') 'z')", 2);
        CHECK.treeOf("<p><b>x<p>y<p>z", "p(b('x')) p(b('y')) p(b('z'))", 3);
        CHECK.treeOf("<p><b>x</p> ", "p(b('x')) b(' ')", 2);
        CHECK.treeOf("<p><b><i><s>x<p>y", "p(b(i(s('x')))) p(b(i(s('y'))))", 5);
        CHECK.treeOf("<p><b>x<p><d>", "p(b('x')) p() d()", 2);
        CHECK.treeOf("<p><b>x<p><k>", "p(b('x')) p(b(k()))", 3);
        CHECK.treeOf("<p><b>x<p><a>", "p(b('x')) p(b(a()))", 4);
        CHECK.treeOf("<p><b>x<p></p>", "p(b('x')) p()", 1);
        CHECK.treeOf("<p><b>x</p><i>y", "p(b('x')) b(i('y'))", 3);
        CHECK.treeOf("<b>x</b>y", "b('x') 'y'", 1);
        CHECK.treeOf("<b><i>x</b>y", "b(i('x')) i('y')", 2);
        CHECK.treeOf("<b><i>x</b></i>y", "b(i('x')) 'y'", 1);
        CHECK.treeOf("<b><a>x</b>y", "b(a('x')) 'y'", 1);
        CHECK.treeOf("<p><b>x</p></b>y", "p(b('x')) 'y'", 1);
        CHECK.treeOf("<p><b>x</p></b></b>y", "p(b('x')) 'y'", 1);
        CHECK.treeOf("<bA><bB>x</b>y", "bA(bB('x') 'y')", 2);
        CHECK.treeOf("<p></b>x", "p('x')", 2);
        CHECK.treeOf("<b><t></b>x", "b('x' t())", 3);
        CHECK.treeOf("<p><b><b><b><b><b>x<p>y", "p(b(b(b(b(b('x')))))) p(b(b(b(b('y')))))", 6);
        CHECK.treeOf("<p><b><i><i><i><i>x<p>y", "p(b(i(i(i(i('x')))))) p(i(i(i(i('y')))))", 6);
        CHECK.treeOf("<sA><s><s><s><s></s></s></s></s>x", "sA(s(s(s(s()))) 'x')", 2);
        CHECK.treeOf("<sA><s><s><s><s></s></s></s></s></s>x", "sA(s(s(s(s())))) 'x'", 1);
        CHECK.treeOf("<sA><s><s><s><s></s></s></s></s><d></s>x", "sA(s(s(s(s()))) d('x'))", 3);
    }

    private static void listsOfCells() {
        CHECK.treeOf("<b>x<t><c>y", "b('x' t(r(c('y'))))", 5);
        CHECK.treeOf("<b>x<t><c>y</b>z", "b('x' t(r(c('yz'))))", 5);
        CHECK.treeOf("<t><b><c>a</t>d", "b() t(r(c('a'))) b('d')", 2);
        CHECK.treeOf("<t><c><b>x<c>y", "t(r(c(b('x')) c('y')))", 4);
        CHECK.treeOf("<t><c><b>x</t>y", "t(r(c(b('x')))) 'y'", 1);
        CHECK.treeOf("<t><c><p><b>x<p>y", "t(r(c(p(b('x')) p(b('y')))))", 6);
        CHECK.treeOf("<t><c><b>x<t><c>y</t>z", "t(r(c(b('x' t(r(c('y'))) 'z'))))", 5);
    }

    private static void adoption() {
        CHECK.treeOf("<b>1<p>2</b>3", "b('1') p(b('2') '3')", 2);
        CHECK.treeOf("<bA>1<p>2</b>3</p>4", "bA('1') p(bA('2') '3') '4'", 1);
        CHECK.treeOf("<b><i><p>x</b>y", "b(i()) p(b('x') i('y'))", 3);
        CHECK.treeOf("<b><d><a>x</b>y", "b() d(b(a('xy')))", 3);
        CHECK.treeOf("<b><d>x<d>y</b>z", "b() d(b('x' d('yz')))", 3);
        CHECK.treeOf("<x><b><d>y</b>", "x(b() d(b('y')))", 3);
        CHECK.treeOf("<t><b><d>x</b>y", "b() d(b('x') 'y') t()", 3);
        CHECK.treeOf("<t><r><b><d>x</b>y", "b() d(b('x') 'y') t(r())", 4);
        CHECK.treeOf("<b><d></b>x", "b() d(b() 'x')", 2);
        CHECK.treeOf("<b><i><d><s>x</b>y</s>z", "b(i()) d(b(s('xy')) i('z'))", 3);
        CHECK.treeOf("<b><i><d><s>x</b></d>z", "b(i()) d(b(s('x'))) i(s('z'))", 3);
        CHECK.treeOf("<b><d>x<b>y</b></b>z", "b() d(b('x' b('y')) 'z')", 2);
        CHECK.treeOf("<b><d>x</b></d></b>y", "b() d(b('x')) 'y'", 1);
        CHECK.treeOf("<t><c><b><d>x</b>y", "t(r(c(b() d(b('x') 'y'))))", 5);
    }

    private static void broken() {
        breaks(Check.repeat("<a>", 23), "<a>");
        breaks(Check.repeat("<h>", 23), "x");
        breaks(Check.repeat("<h>", 23), "</p>");
        breaks(Check.repeat("<h>", 20) + "<p><b>x</p>", "y");
        breaks(Check.repeat("<h>", 20) + "<b><d>x", "</b>");
        breaks(Check.repeat("<h>", 21) + "<t>", "<c>");
        breaks(Check.repeat("<h>", 23), "&l;");
        breaks(Check.repeat("<h>", 23), "&lx");
        CHECK.treeOf(Check.repeat("<h>", 22) + "x", Check.repeat("h() ", 22) + "'x'", 1);
        CHECK.treeOf(Check.repeat("<h>", 22) + "x</d></b><!c>y", Check.repeat("h() ", 22) + "'xy'", 1);
        CHECK.treeOf(Check.repeat("<h>", 21) + "<t> ", Check.repeat("h() ", 21) + "t()", 2);
    }

    private static void breaks(String full, String more) {
        PlainPage page = Check.page(full, "p{c:1}");
        int last = more.length() - 1;
        CHECK.same(more + " but its last", Check.html(page, more.substring(0, last)), last);
        CHECK.same("layout before", page.layout(9) == -1 ? 1 : 0, 0);
        CHECK.holds(more + " breaks", !page.html(more.charAt(last)));
        CHECK.same("nodes, broken", page.nodes(), -1);
        CHECK.same("open, broken", page.open(), -1);
        for (int n = -1; n < 25; n++) {
            CHECK.same("name, broken", page.name(n), -1);
            CHECK.same("parent, broken", page.parent(n), -1);
            CHECK.same("classes, broken", page.classes(n), -1);
            CHECK.same("letter, broken", page.letter(n, 0), -1);
            CHECK.same("value, broken", page.value(n, 'm'), -1);
            CHECK.same("box, broken", page.box(n, 0), -1);
            CHECK.same("place, broken", page.place(n, 0), -1);
        }
        CHECK.same("lines, broken", page.lines(), -1);
        CHECK.same("pixel, broken", page.pixel(0, 0), -1);
        CHECK.same("layout, broken", page.layout(9), -1);
        CHECK.same("lines, still broken", page.lines(), -1);
        CHECK.same("html, broken", Check.html(page, "x</a>"), 0);
        CHECK.same("rules, broken", page.rules(), 1);
        CHECK.same("css, broken", Check.css(page, "d{b:2}"), 6);
        CHECK.same("rules behind css, broken", page.rules(), 2);
        CHECK.same("nodes, still broken", page.nodes(), -1);
    }
}
