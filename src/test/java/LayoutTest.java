/** Promises 13 and 14: layout, box; LAYOUT. */
public final class LayoutTest {
    private static final Check CHECK = new Check();

    public static void main(String[] args) {
        widths();
        wrongQuestions();
        nesting();
        margins();
        contentWidth();
        rules();
        rows();
        inline();
        hidden();
        movedElements();
        anotherLayout();
        CHECK.end();
    }

    private static void widths() {
        PlainPage page = Check.page("ab cd", "");
        CHECK.same("layout(5)", page.layout(5), 1);
        for (int v : new int[] {0, -1, 65, Integer.MAX_VALUE, Integer.MIN_VALUE}) {
            CHECK.same("layout of " + v, page.layout(v), -1);
            CHECK.same("width behind layout of " + v, page.box(0, 2), 5);
        }
        CHECK.same("layout(1)", page.layout(1), 2);
        CHECK.same("width behind layout(1)", page.box(0, 2), 1);
        CHECK.same("layout(64)", page.layout(64), 1);
        CHECK.same("width behind layout(64)", page.box(0, 2), 64);
        CHECK.boxesOf("", "", 7, "0,0,7,0");
    }

    private static void wrongQuestions() {
        PlainPage page = Check.page("<d>x<b>y", "");
        CHECK.same("box without a layout", page.box(0, 2), -1);
        page.layout(9);
        CHECK.same("box of the d", Check.box(page, 1), "0,0,9,1");
        CHECK.same("box of a text", page.box(2, 0), -1);
        CHECK.same("box of a b", page.box(3, 0), -1);
        for (int n : new int[] {-1, 5, 24, Integer.MAX_VALUE, Integer.MIN_VALUE}) {
            CHECK.same("box of node " + n, page.box(n, 0), -1);
        }
        for (int what : new int[] {-1, 4, Integer.MAX_VALUE, Integer.MIN_VALUE}) {
            CHECK.same("box, what = " + what, page.box(1, what), -1);
        }
    }

    private static void nesting() {
        CHECK.boxesOf("<d>a<p>b</p>c</d>", "d{m:1;p:2}p{m:3;w:4}", 20, "0,0,20,15 1,1,18,13 6,7,4,1");
        CHECK.boxesOf("<d><d><d>", "d{p:1}", 20, "0,0,20,6 0,0,20,6 1,1,18,4 2,2,16,2");
        CHECK.boxesOf("<d><d>a", "d{m:2}", 20, "0,0,20,9 2,2,16,5 4,4,12,1");
        CHECK.boxesOf("<d>a<d>b</d></d>c", "", 6, "0,0,6,3 0,0,6,2 0,1,6,1");
    }

    private static void margins() {
        String css = "p{m:2}A{m:5}";
        CHECK.boxesOf("<p>a<pA>b", css, 20, "0,0,20,14 2,2,16,1 5,8,10,1");
        CHECK.boxesOf("<pA>a<p>b", css, 20, "0,0,20,14 5,5,10,1 2,11,16,1");
        CHECK.boxesOf("<p>a</p> <p>b", css, 20, "0,0,20,8 2,2,16,1 2,5,16,1");
        CHECK.boxesOf("<p>a</p>x<p>b", css, 20, "0,0,20,11 2,2,16,1 2,8,16,1");
        CHECK.boxesOf("<p>a</p>x", css, 20, "0,0,20,6 2,2,16,1");
        CHECK.boxesOf("<p>", css, 20, "0,0,20,4 2,2,16,0");
        CHECK.boxesOf("<p><d>", "d{m:3}", 20, "0,0,20,6 0,0,20,0 3,3,14,0");
        CHECK.boxesOf("<pA>a</p><d>b</d><p>c", css, 20, "0,0,20,17 5,5,10,1 0,11,20,1 2,14,16,1");
    }

    private static void contentWidth() {
        CHECK.boxesOf("<d>a", "d{w:4}", 9, "0,0,9,1 0,0,4,1");
        CHECK.boxesOf("<d>a", "d{w:40;p:1;m:2}", 9, "0,0,9,7 2,2,42,3");
        CHECK.boxesOf("<d>a", "d{w:0}", 9, "0,0,9,1 0,0,0,1");
        CHECK.boxesOf("<d>a", "d{m:9;p:9}", 10, "0,0,10,37 9,9,18,19");
        CHECK.boxesOf("<d><p>a", "d{w:30}p{m:1}", 10, "0,0,10,3 0,0,30,3 1,1,28,1");
        CHECK.boxesOf("<d>abc def", "d{w:6}", 20, "0,0,20,2 0,0,6,2");
    }

    private static void rules() {
        CHECK.boxesOf("<h>", "", 5, "0,0,5,1 0,0,5,1");
        CHECK.boxesOf("a<h>b", "h{m:1;p:2}", 9, "0,0,9,9 1,2,7,5");
        CHECK.boxesOf("a<h>b", "h{d:i}", 9, "0,0,9,1");
        CHECK.boxesOf("<k>", "k{d:b;p:1}", 9, "0,0,9,2 0,0,9,2");
        CHECK.boxesOf("a<k>b", "k{d:b}", 9, "0,0,9,2 0,1,9,0");
    }

    private static void rows() {
        CHECK.boxesOf("<t><c>a<c>bb<c>c", "", 10,
                "0,0,10,1 0,0,10,1 0,0,10,1 0,0,3,1 3,0,3,1 6,0,3,1");
        CHECK.boxesOf("<t><c>a<c>b", "c{m:1}", 10, "0,0,10,3 0,0,10,3 0,0,10,3 1,1,3,1 6,1,3,1");
        CHECK.boxesOf("<t><c>a<cA>b", "A{m:2;p:1}", 10,
                "0,0,10,7 0,0,10,7 0,0,10,7 0,0,5,1 7,2,2,3");
        CHECK.boxesOf("<t><c>a<cA>b", "A{w:9}", 10, "0,0,10,1 0,0,10,1 0,0,10,1 0,0,5,1 5,0,9,1");
        CHECK.boxesOf("<t><r>", "r{p:1}", 10, "0,0,10,2 0,0,10,2 0,0,10,2");
        CHECK.boxesOf("<t><r>", "", 10, "0,0,10,0 0,0,10,0 0,0,10,0");
        CHECK.boxesOf("<t><c>a<cA>b<c>d", "A{d:n}", 10, "0,0,10,1 0,0,10,1 0,0,10,1 0,0,5,1 5,0,5,1");
        CHECK.boxesOf("<t><cA>b", "A{d:n}", 10, "0,0,10,0 0,0,10,0 0,0,10,0");
        CHECK.boxesOf("<t><c>a<c>b<c>c", "", 2, "0,0,2,1 0,0,2,1 0,0,2,1 0,0,0,1 0,0,0,1 0,0,0,1");
        CHECK.boxesOf("<t><c>a<r><c>b", "r{m:1}", 9,
                "0,0,9,5 0,0,9,5 1,1,7,1 1,1,7,1 1,3,7,1 1,3,7,1");
        CHECK.boxesOf("<t><r><c>a<c>b", "r{p:1;m:1}", 13, "0,0,13,5 0,0,13,5 1,1,11,3 2,2,4,1 6,2,4,1");
        CHECK.boxesOf("<t><c>a<k>b<c>c", "*{d:i}", 8, "0,0,8,2 0,0,8,2 0,0,8,2 0,0,4,2 4,0,4,1");
    }

    private static void inline() {
        CHECK.boxesOf("<a>x<d>y</d>z", "", 5, "0,0,5,3 0,1,5,1");
        CHECK.boxesOf("<a><a>x<d>y</d></a><d>z", "a{m:9;p:9;w:1}", 5, "0,0,5,3 0,1,5,1 0,2,5,1");
        CHECK.boxesOf("<p>x</p>y", "p{d:i}", 5, "0,0,5,1");
        CHECK.boxesOf("<b>x</b>y", "b{d:b}", 5, "0,0,5,2 0,0,5,1");
        CHECK.boxesOf("<d>x<a><d>y", "d{p:1}", 9, "0,0,9,6 0,0,9,6 1,2,7,3");
    }

    private static void hidden() {
        CHECK.boxesOf("<d>x<p>y</d>z", "d{d:n}", 9, "0,0,9,1");
        CHECK.boxesOf("<a><d>x</d></a>z", "a{d:n}d{d:b}", 9, "0,0,9,1");
        CHECK.boxesOf("<p>a<pA>b<p>c", "p{m:1}A{d:n;m:9}", 9, "0,0,9,5 1,1,7,1 1,3,7,1");
        CHECK.boxesOf("<h>", "h{d:n}", 9, "0,0,9,0");
        CHECK.boxesOf("<t><c>a", "r{d:n}", 9, "0,0,9,0 0,0,9,0");
        PlainPage page = Check.page("<d>x<p>y</d>z", "d{d:n}");
        page.layout(9);
        CHECK.same("lines without the hidden", page.lines(), 1);
        CHECK.same("place of x", page.place(2, 0), -1);
        CHECK.same("place of y", page.place(4, 0), -1);
        CHECK.same("place of z", page.place(5, 0), 0);
    }

    /** What adoption or fostering has moved is laid out where it is now, and there alone. */
    private static void movedElements() {
        CHECK.boxesOf("<b>1<p>2</b>3</p>4", "b{d:b}", 9, "0,0,9,4 0,0,9,1 0,1,9,2 0,1,9,1");
        CHECK.boxesOf("<t><b><d>x</b>y", "b{p:1}", 9, "0,0,9,1 0,0,9,1 0,1,9,0");
        CHECK.boxesOf("<b><d>x<d>y</b>z", "b{d:b;p:1}", 9,
                "0,0,9,6 0,0,9,2 0,2,9,4 0,2,9,4 1,4,7,1");
        CHECK.boxesOf("<t>x<c>y</t>z", "", 9, "0,0,9,3 0,1,9,1 0,1,9,1 0,1,9,1");
    }

    private static void anotherLayout() {
        PlainPage page = Check.page("<d>x", "d{m:1}");
        CHECK.same("first layout", page.layout(9), 3);
        CHECK.same("box in the first layout", Check.box(page, 1), "1,1,7,1");
        CHECK.same("layout for another width", page.layout(5), 3);
        CHECK.same("box for another width", Check.box(page, 1), "1,1,3,1");
        Check.css(page, "d{d:n}");
        CHECK.same("layout of the hidden", page.layout(9), 0);
        CHECK.same("box of the hidden", Check.box(page, 1), "none");
        CHECK.same("place of the hidden", page.place(2, 0), -1);
        CHECK.same("lines of the hidden", page.lines(), 0);
        CHECK.same("pixel of the hidden", page.pixel(1, 1), 0);
    }
}
