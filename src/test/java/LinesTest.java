/** Promises 15 and 16: place, lines; LINES. */
public final class LinesTest {
    private static final Check CHECK = new Check();

    public static void main(String[] args) {
        words();
        gaps();
        sizes();
        breaks();
        hidden();
        boxes();
        wrongQuestions();
        CHECK.end();
    }

    private static void words() {
        CHECK.linesOf("ab cd ef", "", 5, "0,0 1,0 - 3,0 4,0 - 0,1 1,1 lines 2 height 2");
        CHECK.linesOf("ab cd ef", "", 4, "0,0 1,0 - 0,1 1,1 - 0,2 1,2 lines 3 height 3");
        CHECK.linesOf("ab cd ef", "", 8, "0,0 1,0 - 3,0 4,0 - 6,0 7,0 lines 1 height 1");
        CHECK.linesOf("abcde fg", "", 3, "0,0 1,0 2,0 3,0 4,0 - 0,1 1,1 lines 2 height 2");
        CHECK.linesOf("a<b>b</b>c", "", 2, "0,0 1,0 2,0 lines 1 height 1");
        CHECK.linesOf("a b<b>c</b>", "", 3, "0,0 - 0,1 1,1 lines 2 height 2");
        CHECK.linesOf("", "", 9, "lines 0 height 0");
        CHECK.linesOf("   ", "", 9, "- - - lines 0 height 0");
        CHECK.linesOf("  a", "", 9, "- - 0,0 lines 1 height 1");
        CHECK.linesOf("a  ", "", 1, "0,0 - - lines 1 height 1");
        CHECK.linesOf("<d>a b", "d{w:0}", 9, "0,0 - 0,1 lines 2 height 2");
        CHECK.linesOf("<d>a b", "d{p:2;m:1}", 9, "3,3 - 5,3 lines 1 height 7");
    }

    private static void gaps() {
        CHECK.linesOf("a   b", "", 5, "0,0 - - - 2,0 lines 1 height 1");
        CHECK.linesOf("a<s> </s> b", "s{s:3}", 9, "0,0 - - 4,0 lines 1 height 1");
        CHECK.linesOf("a <s> </s>b", "s{s:3}", 9, "0,0 - - 2,0 lines 1 height 1");
        CHECK.linesOf("a<s> </s>b", "s{s:3}", 5, "0,0 - 4,0 lines 1 height 1");
        CHECK.linesOf("a<s> </s>b", "s{s:3}", 4, "0,0 - 0,1 lines 2 height 2");
        CHECK.linesOf("<s>a </s>b c", "s{s:2}", 9, "0,0 - 4,1 - 6,1 lines 1 height 2");
        CHECK.linesOf("<s>  </s>a b", "s{s:3}", 9, "- - 0,0 - 2,0 lines 1 height 1");
        CHECK.linesOf("aa b<s> </s>c d", "s{s:2}", 4, "0,0 1,0 - 3,0 - 0,1 - 2,1 lines 2 height 2");
    }

    private static void sizes() {
        CHECK.linesOf("a<s>b</s>c", "s{s:2}", 9, "0,1 1,0 3,1 lines 1 height 2");
        CHECK.linesOf("a<s>b</s>c d", "s{s:2}", 4, "0,1 1,0 3,1 - 0,2 lines 2 height 3");
        CHECK.linesOf("a <s>b</s> c", "s{s:3}", 4, "0,0 - 0,1 - 0,4 lines 3 height 5");
        CHECK.linesOf("a <s>b</s> c", "s{s:3}", 5, "0,2 - 2,0 - 0,3 lines 2 height 4");
        CHECK.linesOf("<d>a", "d{s:4}", 9, "0,0 lines 1 height 4");
        CHECK.linesOf("<d><b>a</b>b", "d{s:4}b{s:1}", 9, "0,3 1,0 lines 1 height 4");
    }

    private static void breaks() {
        CHECK.linesOf("a<k>b", "", 9, "0,0 0,1 lines 2 height 2");
        CHECK.linesOf("a<k>", "", 9, "0,0 lines 1 height 1");
        CHECK.linesOf("a<k> ", "", 9, "0,0 - lines 1 height 1");
        CHECK.linesOf("<k>a", "", 9, "0,1 lines 2 height 2");
        CHECK.linesOf("<k>a", "k{s:4}", 9, "0,4 lines 2 height 5");
        CHECK.linesOf("a<k>b", "k{s:4}", 9, "0,0 0,1 lines 2 height 2");
        CHECK.linesOf("a<k><k>b", "k{s:3}", 9, "0,0 0,4 lines 3 height 5");
        CHECK.linesOf("a<k> <k>b", "k{s:3}", 9, "0,0 - 0,4 lines 3 height 5");
        CHECK.linesOf("a<k><k>", "k{s:3}", 9, "0,0 lines 2 height 4");
        CHECK.linesOf("<k>", "", 9, "lines 1 height 1");
        CHECK.linesOf("<k><k><kA>", "A{s:5}", 9, "lines 3 height 7");
        CHECK.linesOf(" <k> a", "", 9, "- - 0,1 lines 2 height 2");
        CHECK.linesOf("a <k> b c", "", 9, "0,0 - - 0,1 - 2,1 lines 2 height 2");
        CHECK.linesOf("a <k>b", "", 1, "0,0 - 0,1 lines 2 height 2");
        CHECK.linesOf("<b>a<k>b</b>c", "", 9, "0,0 0,1 1,1 lines 2 height 2");
        CHECK.linesOf("<s>a<k><k>", "s{s:2}", 9, "0,0 lines 2 height 4");
    }

    private static void hidden() {
        CHECK.linesOf("a<k>b", "k{d:n}", 9, "0,0 1,0 lines 1 height 1");
        CHECK.linesOf("a<s> x </s>b", "s{d:n}", 9, "0,0 - - - 1,0 lines 1 height 1");
        CHECK.linesOf("a<h>b", "h{d:i}", 9, "0,0 1,0 lines 1 height 1");
        CHECK.linesOf("a<h>b", "h{d:n}", 9, "0,0 1,0 lines 1 height 1");
    }

    private static void boxes() {
        CHECK.linesOf("a<d>b</d>c", "", 9, "0,0 0,1 0,2 lines 3 height 3");
        CHECK.linesOf("a<k><d>b</d><k>c", "", 9, "0,0 0,1 0,3 lines 4 height 4");
        CHECK.linesOf("a<k>b", "k{d:b}", 9, "0,0 0,1 lines 2 height 2");
        CHECK.linesOf("a<d></d>b", "", 9, "0,0 0,1 lines 2 height 2");
        CHECK.linesOf("<p>a</p> <k>b", "p{m:2}", 9, "2,2 - 0,6 lines 3 height 7");
        CHECK.linesOf("<t><c>a b<c>c", "c{p:1}", 8, "1,1 - 1,2 5,1 lines 3 height 4");
    }

    private static void wrongQuestions() {
        PlainPage page = Check.page("ab<p>c", "");
        CHECK.same("lines without a layout", page.lines(), -1);
        CHECK.same("place without a layout", page.place(1, 0), -1);
        page.layout(9);
        CHECK.same("place(1, 1)", page.place(1, 1), 1);
        CHECK.same("place(3, 0)", page.place(3, 0), 65536);
        CHECK.same("place of ROOT", page.place(0, 0), -1);
        CHECK.same("place of an element", page.place(2, 0), -1);
        for (int n : new int[] {-1, 4, 24, Integer.MAX_VALUE, Integer.MIN_VALUE}) {
            CHECK.same("place of node " + n, page.place(n, 0), -1);
            CHECK.same("place of character " + n, page.place(1, n), -1);
        }
        page.layout(1);
        CHECK.same("place(1, 1) of the second layout", page.place(1, 1), 1);
        CHECK.same("lines of the second layout", page.lines(), 2);
    }
}
