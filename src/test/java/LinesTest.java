/** Promises 15 and 16: place, lines; LINES. */
public final class LinesTest {
    private static final Check CHECK = new Check();

    public static void main(String[] args) {
        words();
        gaps();
        sizes();
        breaks();
        hidden();
        boxes();
        wrongQuestions();
        CHECK.end();
    }

    /** The places of all texts, one behind the other, then the lines and the height. */
    private static void due(String html, String css, int width, String want) {
        PlainPage page = Check.page(html, css);
        int height = page.layout(width);
        StringBuilder got = new StringBuilder();
        for (int n = 0; n < page.nodes(); n++) {
            if (page.name(n) == 1) {
                got.append(Check.places(page, n)).append(" ");
            }
        }
        got.append("lines ").append(page.lines()).append(" height ").append(height);
        CHECK.same(html + " by " + css + " in " + width, got.toString(), want);
    }

    private static void words() {
        due("ab cd ef", "", 5, "0,0 1,0 - 3,0 4,0 - 0,1 1,1 lines 2 height 2");
        due("ab cd ef", "", 4, "0,0 1,0 - 0,1 1,1 - 0,2 1,2 lines 3 height 3");
        due("ab cd ef", "", 8, "0,0 1,0 - 3,0 4,0 - 6,0 7,0 lines 1 height 1");
        due("abcde fg", "", 3, "0,0 1,0 2,0 3,0 4,0 - 0,1 1,1 lines 2 height 2");
        due("a<b>b</b>c", "", 2, "0,0 1,0 2,0 lines 1 height 1");
        due("a b<b>c</b>", "", 3, "0,0 - 0,1 1,1 lines 2 height 2");
        due("", "", 9, "lines 0 height 0");
        due("   ", "", 9, "- - - lines 0 height 0");
        due("  a", "", 9, "- - 0,0 lines 1 height 1");
        due("a  ", "", 1, "0,0 - - lines 1 height 1");
        due("<d>a b", "d{w:0}", 9, "0,0 - 0,1 lines 2 height 2");
        due("<d>a b", "d{p:2;m:1}", 9, "3,3 - 5,3 lines 1 height 7");
    }

    private static void gaps() {
        due("a   b", "", 5, "0,0 - - - 2,0 lines 1 height 1");
        due("a<s> </s> b", "s{s:3}", 9, "0,0 - - 4,0 lines 1 height 1");
        due("a <s> </s>b", "s{s:3}", 9, "0,0 - - 2,0 lines 1 height 1");
        due("a<s> </s>b", "s{s:3}", 5, "0,0 - 4,0 lines 1 height 1");
        due("a<s> </s>b", "s{s:3}", 4, "0,0 - 0,1 lines 2 height 2");
        due("<s>a </s>b c", "s{s:2}", 9, "0,0 - 4,1 - 6,1 lines 1 height 2");
        due("<s>  </s>a b", "s{s:3}", 9, "- - 0,0 - 2,0 lines 1 height 1");
        due("aa b<s> </s>c d", "s{s:2}", 4, "0,0 1,0 - 3,0 - 0,1 - 2,1 lines 2 height 2");
    }

    private static void sizes() {
        due("a<s>b</s>c", "s{s:2}", 9, "0,1 1,0 3,1 lines 1 height 2");
        due("a<s>b</s>c d", "s{s:2}", 4, "0,1 1,0 3,1 - 0,2 lines 2 height 3");
        due("a <s>b</s> c", "s{s:3}", 4, "0,0 - 0,1 - 0,4 lines 3 height 5");
        due("a <s>b</s> c", "s{s:3}", 5, "0,2 - 2,0 - 0,3 lines 2 height 4");
        due("<d>a", "d{s:4}", 9, "0,0 lines 1 height 4");
        due("<d><b>a</b>b", "d{s:4}b{s:1}", 9, "0,3 1,0 lines 1 height 4");
    }

    private static void breaks() {
        due("a<k>b", "", 9, "0,0 0,1 lines 2 height 2");
        due("a<k>", "", 9, "0,0 lines 1 height 1");
        due("a<k> ", "", 9, "0,0 - lines 1 height 1");
        due("<k>a", "", 9, "0,1 lines 2 height 2");
        due("<k>a", "k{s:4}", 9, "0,4 lines 2 height 5");
        due("a<k>b", "k{s:4}", 9, "0,0 0,1 lines 2 height 2");
        due("a<k><k>b", "k{s:3}", 9, "0,0 0,4 lines 3 height 5");
        due("a<k> <k>b", "k{s:3}", 9, "0,0 - 0,4 lines 3 height 5");
        due("a<k><k>", "k{s:3}", 9, "0,0 lines 2 height 4");
        due("<k>", "", 9, "lines 1 height 1");
        due("<k><k><kA>", "A{s:5}", 9, "lines 3 height 7");
        due(" <k> a", "", 9, "- - 0,1 lines 2 height 2");
        due("a <k> b c", "", 9, "0,0 - - 0,1 - 2,1 lines 2 height 2");
        due("a <k>b", "", 1, "0,0 - 0,1 lines 2 height 2");
        due("<b>a<k>b</b>c", "", 9, "0,0 0,1 1,1 lines 2 height 2");
        due("<s>a<k><k>", "s{s:2}", 9, "0,0 lines 2 height 4");
    }

    private static void hidden() {
        due("a<k>b", "k{d:n}", 9, "0,0 1,0 lines 1 height 1");
        due("a<s> x </s>b", "s{d:n}", 9, "0,0 - - - 1,0 lines 1 height 1");
        due("a<h>b", "h{d:i}", 9, "0,0 1,0 lines 1 height 1");
        due("a<h>b", "h{d:n}", 9, "0,0 1,0 lines 1 height 1");
    }

    private static void boxes() {
        due("a<d>b</d>c", "", 9, "0,0 0,1 0,2 lines 3 height 3");
        due("a<k><d>b</d><k>c", "", 9, "0,0 0,1 0,3 lines 4 height 4");
        due("a<k>b", "k{d:b}", 9, "0,0 0,1 lines 2 height 2");
        due("a<d></d>b", "", 9, "0,0 0,1 lines 2 height 2");
        due("<p>a</p> <k>b", "p{m:2}", 9, "2,2 - 0,6 lines 3 height 7");
        due("<t><c>a b<c>c", "c{p:1}", 8, "1,1 - 1,2 5,1 lines 3 height 4");
    }

    private static void wrongQuestions() {
        PlainPage page = Check.page("ab<p>c", "");
        CHECK.same("lines without a layout", page.lines(), -1);
        CHECK.same("place without a layout", page.place(1, 0), -1);
        page.layout(9);
        CHECK.same("place(1, 1)", page.place(1, 1), 1);
        CHECK.same("place(3, 0)", page.place(3, 0), 65536);
        CHECK.same("place of ROOT", page.place(0, 0), -1);
        CHECK.same("place of an element", page.place(2, 0), -1);
        for (int n : new int[] {-1, 4, 24, Integer.MAX_VALUE, Integer.MIN_VALUE}) {
            CHECK.same("place of node " + n, page.place(n, 0), -1);
            CHECK.same("place of character " + n, page.place(1, n), -1);
        }
        page.layout(1);
        CHECK.same("place(1, 1) of the second layout", page.place(1, 1), 1);
        CHECK.same("lines of the second layout", page.lines(), 2);
    }
}
