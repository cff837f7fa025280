/** LAYOUT: a test for each sentence that names a boundary case. */
public final class LayoutEdgesTest {
    private static final Check CHECK = new Check();

    public static void main(String[] args) {
        hidden();
        hiddenTexts();
        whichHaveBoxes();
        itemsOfBoxes();
        rulesWithoutBox();
        contentWidth();
        paddedWidth();
        givenWidth();
        widthAndHeight();
        whereBoxesStand();
        greaterMargin();
        lastBecomesTheMargin();
        runsBelowBoxes();
        runsWithoutLines();
        heightOfContent();
        heightOfRules();
        sharesOfCells();
        marginsOfCells();
        availableInRows();
        heightOfRows();
        rowsWithoutBoxes();
        CHECK.end();
    }

    private static void hidden() {
        CHECK.of("An element is HIDDEN when its d or that of an ancestor is n");
        CHECK.boxesOf("<d>x", "d{d:n}", 9, "0,0,9,0");
        CHECK.boxesOf("<dA><d>x", "A{d:n}", 9, "0,0,9,0");
        CHECK.boxesOf("<d><dA>x", "A{d:n}", 9, "0,0,9,0 0,0,9,0");
        CHECK.boxesOf("<a><x><d>y", "a{d:n}", 9, "0,0,9,0");
        CHECK.boxesOf("<a><x><d>y", "a{d:n}d{d:b!}", 9, "0,0,9,0");
        CHECK.boxesOf("<dA>x</d><d>y", "A{d:n}", 9, "0,0,9,1 0,0,9,1");
        CHECK.boxesOf("<t><c>x", "t{d:n}", 9, "0,0,9,0");
        CHECK.boxesOf("<h><k>", "h{d:n}k{d:n}", 9, "0,0,9,0");
        CHECK.boxesOf("<d>x", "*{d:n}", 9, "0,0,9,0");
    }

    private static void hiddenTexts() {
        CHECK.of("nothing hidden, nor texts in it, has a box or a place");
        CHECK.linesOf("<a>x</a>y", "a{d:n}", 9, "- 0,0 lines 1 height 1");
        CHECK.linesOf("<a><b>x</b></a>y", "a{d:n}b{d:b}", 9, "- 0,0 lines 1 height 1");
        CHECK.linesOf("<a>x</a>y", "a{d:i}", 9, "0,0 1,0 lines 1 height 1");
        CHECK.linesOf("<d>x</d>y", "d{d:n;m:5;p:5}", 9, "- 0,0 lines 1 height 1");
        CHECK.linesOf("<d><k>x", "d{d:n}", 9, "- lines 0 height 0");
    }

    private static void whichHaveBoxes() {
        CHECK.of("A BOX has every element, not hidden, whose d is b, and ROOT.");
        CHECK.boxesOf("", "", 1, "0,0,1,0");
        CHECK.boxesOf("x", "", 9, "0,0,9,1");
        CHECK.boxesOf("<a>x", "", 9, "0,0,9,1");
        CHECK.boxesOf("<a>x", "a{d:b}", 9, "0,0,9,1 0,0,9,1");
        CHECK.boxesOf("<d>x", "", 9, "0,0,9,1 0,0,9,1");
        CHECK.boxesOf("<d>x", "d{d:i}", 9, "0,0,9,1");
        CHECK.boxesOf("<h>", "h{d:i}", 9, "0,0,9,0");
        CHECK.boxesOf("<t><c>x", "*{d:i}", 9, "0,0,9,1 0,0,9,1 0,0,9,1 0,0,9,1");
    }

    private static void itemsOfBoxes() {
        CHECK.of("The ITEMS of a box are, in document order, the boxes that are in it (in no box in it), "
                + "and between them RUNS");
        CHECK.boxesOf("<a><x><d>y", "a{m:3;p:3;w:1}", 9, "0,0,9,1 0,0,9,1");
        CHECK.boxesOf("<d><d>x", "d{p:1}", 9, "0,0,9,5 0,0,9,5 1,1,7,3");
        CHECK.boxesOf("<d>x</d><d>y", "", 9, "0,0,9,2 0,0,9,1 0,1,9,1");
        CHECK.linesOf("<a>1<d>2</d>3</a>4<d>5", "", 9, "0,0 0,1 0,2 1,2 0,3 lines 4 height 4");
        CHECK.linesOf("1<d></d>2", "", 9, "0,0 0,1 lines 2 height 2");
    }

    private static void rulesWithoutBox() {
        CHECK.of("(an h that is no box is nothing)");
        CHECK.linesOf("<h>", "h{d:i}", 9, "lines 0 height 0");
        CHECK.linesOf("1<h>2", "h{d:i;m:3;p:3;w:3;s:9}", 9, "0,0 1,0 lines 1 height 1");
        CHECK.linesOf("1<h>2", "h{d:n}", 9, "0,0 1,0 lines 1 height 1");
        CHECK.linesOf("1<h>2", "", 9, "0,0 0,2 lines 2 height 3");
        CHECK.linesOf("1 <h> 2", "h{d:i}", 9, "0,0 - - 2,0 lines 1 height 1");
    }

    private static void contentWidth() {
        CHECK.of("otherwise A - 2m - 2p, but at least 0");
        CHECK.boxesOf("<d>", "d{m:4}", 10, "0,0,10,8 4,4,2,0");
        CHECK.boxesOf("<d>", "d{m:4}", 9, "0,0,9,8 4,4,1,0");
        CHECK.boxesOf("<d>", "d{m:4}", 8, "0,0,8,8 4,4,0,0");
        CHECK.boxesOf("<d>", "d{m:4}", 7, "0,0,7,8 4,4,0,0");
        CHECK.boxesOf("<d>", "d{m:4}", 1, "0,0,1,8 4,4,0,0");
        CHECK.boxesOf("<d>", "", 1, "0,0,1,0 0,0,1,0");
        CHECK.boxesOf("<d>", "", 64, "0,0,64,0 0,0,64,0");
    }

    private static void paddedWidth() {
        CHECK.of("A - 2m - 2p, but at least 0; its width is that plus 2p");
        CHECK.boxesOf("<d>", "d{p:4}", 9, "0,0,9,8 0,0,9,8");
        CHECK.boxesOf("<d>", "d{p:4}", 8, "0,0,8,8 0,0,8,8");
        CHECK.boxesOf("<d>", "d{p:4}", 7, "0,0,7,8 0,0,8,8");
        CHECK.boxesOf("<d>", "d{m:2;p:2}", 9, "0,0,9,8 2,2,5,4");
        CHECK.boxesOf("<d>", "d{m:2;p:2}", 8, "0,0,8,8 2,2,4,4");
        CHECK.boxesOf("<d>", "d{m:2;p:2}", 7, "0,0,7,8 2,2,4,4");
        CHECK.boxesOf("<d>", "d{m:99;p:99}", 64, "0,0,64,396 99,99,198,198");
        CHECK.boxesOf("<d><u>", "d{m:4}", 7, "0,0,7,8 4,4,0,0 4,4,0,0");
    }

    private static void givenWidth() {
        CHECK.of("the CONTENT WIDTH w, if that is not NONE");
        CHECK.boxesOf("<d>", "d{w:0}", 9, "0,0,9,0 0,0,0,0");
        CHECK.boxesOf("<d>", "d{w:1}", 9, "0,0,9,0 0,0,1,0");
        CHECK.boxesOf("<d>", "d{w:99}", 9, "0,0,9,0 0,0,99,0");
        CHECK.boxesOf("<d>", "d{w:5;m:1;p:1}", 9, "0,0,9,4 1,1,7,2");
        CHECK.boxesOf("<d>", "d{w:5;m:9;p:9}", 9, "0,0,9,36 9,9,23,18");
        CHECK.boxesOf("<d><u>", "d{w:20}", 5, "0,0,5,0 0,0,20,0 0,0,20,0");
        CHECK.boxesOf("<d><u>", "d{w:0}", 5, "0,0,5,0 0,0,0,0 0,0,0,0");
        CHECK.boxesOf("<d><u>", "d{w:20;p:3}u{m:1}", 50, "0,0,50,8 0,0,26,8 4,4,18,0");
    }

    private static void widthAndHeight() {
        CHECK.of("its height is the height of its content plus 2p");
        CHECK.boxesOf("<d>", "d{p:0}", 9, "0,0,9,0 0,0,9,0");
        CHECK.boxesOf("<d>", "d{p:1}", 9, "0,0,9,2 0,0,9,2");
        CHECK.boxesOf("<d>x", "d{p:1}", 9, "0,0,9,3 0,0,9,3");
        CHECK.boxesOf("<t><r>", "t{p:1}r{p:1}", 9, "0,0,9,4 0,0,9,4 1,1,7,2");
    }

    private static void whereBoxesStand() {
        CHECK.of("It stands m to the right of where the available width begins; its content begins p "
                + "further to the right and p below its top.");
        CHECK.boxesOf("<d><u>", "d{m:1;p:2}u{m:3;p:4}", 30, "0,0,30,20 1,1,28,18 6,6,18,8");
        CHECK.linesOf("<d>x", "d{m:1;p:2}", 30, "3,3 lines 1 height 7");
        CHECK.linesOf("<d>x", "d{p:2}", 30, "2,2 lines 1 height 5");
    }

    private static void greaterMargin() {
        CHECK.of("A box with margin m stands by the greater of LAST and m below the end of what is "
                + "above");
        CHECK.boxesOf("<u></u><d>", "u{m:3}d{m:0}", 20, "0,0,20,6 3,3,14,0 0,6,20,0");
        CHECK.boxesOf("<u></u><d>", "u{m:3}d{m:2}", 20, "0,0,20,8 3,3,14,0 2,6,16,0");
        CHECK.boxesOf("<u></u><d>", "u{m:3}d{m:3}", 20, "0,0,20,9 3,3,14,0 3,6,14,0");
        CHECK.boxesOf("<u></u><d>", "u{m:3}d{m:4}", 20, "0,0,20,11 3,3,14,0 4,7,12,0");
        CHECK.boxesOf("<d>", "d{m:2}", 20, "0,0,20,4 2,2,16,0");
        CHECK.boxesOf("x<d>", "d{m:2}", 20, "0,0,20,5 2,3,16,0");
    }

    private static void lastBecomesTheMargin() {
        CHECK.of("and LAST becomes m");
        CHECK.boxesOf("<u></u><d></d><p>", "u{m:3}d{m:0}p{m:2}", 20,
                "0,0,20,10 3,3,14,0 0,6,20,0 2,8,16,0");
        CHECK.boxesOf("<u></u><d></d><p>", "u{m:3}d{m:1}p{m:0}", 20,
                "0,0,20,7 3,3,14,0 1,6,18,0 0,7,20,0");
        CHECK.boxesOf("<d><u></u></d><p>", "u{m:3}", 20, "0,0,20,6 0,0,20,6 3,3,14,0 0,6,20,0");
    }

    private static void runsBelowBoxes() {
        CHECK.of("A run that has lines begins LAST below the end of what is above, and LAST becomes 0");
        CHECK.linesOf("x", "", 20, "0,0 lines 1 height 1");
        CHECK.linesOf("<d></d>x", "d{m:0}", 20, "0,0 lines 1 height 1");
        CHECK.linesOf("<d></d>x", "d{m:3}", 20, "0,6 lines 1 height 7");
        CHECK.boxesOf("<d></d>x<u>", "d{m:3}u{m:2}", 20, "0,0,20,11 3,3,14,0 2,9,16,0");
        CHECK.boxesOf("<d></d>x<u>", "d{m:3}", 20, "0,0,20,7 3,3,14,0 0,7,20,0");
        CHECK.boxesOf("<d></d><k><u>", "d{m:3}u{m:2}", 20, "0,0,20,11 3,3,14,0 2,9,16,0");
    }

    private static void runsWithoutLines() {
        CHECK.of("a run without lines leaves all as it is");
        String[] nothing = {"", " ", "    ", "<a></a>", "<a> </a>", "<hA>", "<aB>x<k></a>"};
        for (String between : nothing) {
            CHECK.boxesOf("<d></d>" + between + "<u></u>", "d{m:3}u{m:2}A{d:i}B{d:n}", 20,
                    "0,0,20,8 3,3,14,0 2,6,16,0");
            CHECK.boxesOf("<d></d>" + between, "d{m:3}A{d:i}B{d:n}", 20, "0,0,20,6 3,3,14,0");
            CHECK.boxesOf(between + "<d>", "d{m:3}A{d:i}B{d:n}", 20, "0,0,20,6 3,3,14,0");
        }
    }

    private static void heightOfContent() {
        CHECK.of("The height is the distance from the content's top to the end of the last box, or run "
                + "with lines (0 without these), plus LAST");
        CHECK.boxesOf("<d>", "", 9, "0,0,9,0 0,0,9,0");
        CHECK.boxesOf("<d>   ", "d{p:1}", 9, "0,0,9,2 0,0,9,2");
        CHECK.boxesOf("<d><u>x", "d{p:1}u{d:n}", 9, "0,0,9,2 0,0,9,2");
        CHECK.boxesOf("<k>", "k{d:b}", 9, "0,0,9,0 0,0,9,0");
        CHECK.boxesOf("<d><u>", "u{m:2}", 9, "0,0,9,4 0,0,9,4 2,2,5,0");
        CHECK.boxesOf("<d><u></u>x", "u{m:2}", 9, "0,0,9,5 0,0,9,5 2,2,5,0");
        CHECK.boxesOf("<d>x<u>", "u{m:2}", 9, "0,0,9,5 0,0,9,5 2,3,5,0");
        CHECK.boxesOf("<d>x<u></u> ", "u{m:2}", 9, "0,0,9,5 0,0,9,5 2,3,5,0");
    }

    private static void heightOfRules() {
        CHECK.of("for an h it is 1");
        CHECK.boxesOf("<h>", "", 9, "0,0,9,1 0,0,9,1");
        CHECK.boxesOf("<h>", "h{s:9}", 9, "0,0,9,1 0,0,9,1");
        CHECK.boxesOf("<h>", "h{p:3}", 9, "0,0,9,7 0,0,9,7");
        CHECK.boxesOf("<h>", "h{w:0}", 9, "0,0,9,1 0,0,0,1");
        CHECK.boxesOf("<h>", "h{m:2}", 9, "0,0,9,5 2,2,5,1");
        CHECK.boxesOf("<h><h>", "", 9, "0,0,9,2 0,0,9,1 0,1,9,1");
    }

    private static void sharesOfCells() {
        CHECK.of("the k-th (from 0) has the available width q, which begins k * q to the right, q being "
                + "the content width / n rounded down");
        cells("<c>", 9, "0,0,9,0");
        cells("<c><c>", 9, "0,0,4,0 4,0,4,0");
        cells("<c><c>", 8, "0,0,4,0 4,0,4,0");
        cells("<c><c>", 7, "0,0,3,0 3,0,3,0");
        cells("<c><c><c>", 3, "0,0,1,0 1,0,1,0 2,0,1,0");
        cells("<c><c><c>", 2, "0,0,0,0 0,0,0,0 0,0,0,0");
        cells("<c><c><c><c>", 64, "0,0,16,0 16,0,16,0 32,0,16,0 48,0,16,0");
        cells("<c><c><c><c>", 63, "0,0,15,0 15,0,15,0 30,0,15,0 45,0,15,0");
    }

    private static void cells(String cells, int width, String due) {
        String row = "0,0," + width + ",0 ";
        CHECK.boxesOf("<t>" + cells, "", width, row + row + row + due);
    }

    private static void marginsOfCells() {
        CHECK.of("its top is its margin m below the content's");
        CHECK.boxesOf("<t><c><c>", "c{m:1}", 9, "0,0,9,2 0,0,9,2 0,0,9,2 1,1,2,0 5,1,2,0");
        CHECK.boxesOf("<t><c><c>", "c{m:2}", 9, "0,0,9,4 0,0,9,4 0,0,9,4 2,2,0,0 6,2,0,0");
        CHECK.boxesOf("<t><c><c>", "c{m:3}", 9, "0,0,9,6 0,0,9,6 0,0,9,6 3,3,0,0 7,3,0,0");
        CHECK.boxesOf("<t><cA><c>", "A{m:1}", 9, "0,0,9,2 0,0,9,2 0,0,9,2 1,1,2,0 4,0,4,0");
        CHECK.boxesOf("<t><c><cA>", "A{m:1}", 9, "0,0,9,2 0,0,9,2 0,0,9,2 0,0,4,0 5,1,2,0");
    }

    private static void availableInRows() {
        CHECK.of("the content width of the box in which it is, but in an r as said below");
        CHECK.boxesOf("<t><c><c>", "r{w:5}", 9, "0,0,9,0 0,0,9,0 0,0,5,0 0,0,2,0 2,0,2,0");
        CHECK.boxesOf("<t><c><c>", "r{w:1}", 9, "0,0,9,0 0,0,9,0 0,0,1,0 0,0,0,0 0,0,0,0");
        CHECK.boxesOf("<t><c><c>", "r{p:2}", 9, "0,0,9,4 0,0,9,4 0,0,9,4 2,2,2,0 4,2,2,0");
        CHECK.boxesOf("<t><c><cA>", "A{w:9}", 9, "0,0,9,0 0,0,9,0 0,0,9,0 0,0,4,0 4,0,9,0");
        CHECK.boxesOf("<t><c><c><d>", "", 9, "0,0,9,0 0,0,9,0 0,0,9,0 0,0,4,0 4,0,4,0 4,0,4,0");
    }

    private static void heightOfRows() {
        CHECK.of("The height is the greatest of 2m + its height");
        String page = "0,0,20,5 0,0,20,5 0,0,20,5 ";
        CHECK.boxesOf("<t><cA>x<cB>y", "A{m:2}B{p:1}", 20, page + "2,2,6,1 10,0,10,3");
        CHECK.boxesOf("<t><cB>x<cA>y", "A{m:2}B{p:1}", 20, page + "0,0,10,3 12,2,6,1");
        CHECK.boxesOf("<t><cA>x<cB>y", "A{m:2}B{p:2}", 20, page + "2,2,6,1 10,0,10,5");
        page = "0,0,20,7 0,0,20,7 0,0,20,7 ";
        CHECK.boxesOf("<t><cA>x<cB>y", "A{m:2}B{p:3}", 20, page + "2,2,6,1 10,0,10,7");
    }

    private static void rowsWithoutBoxes() {
        CHECK.of("0 without boxes");
        CHECK.boxesOf("<t><r>", "", 9, "0,0,9,0 0,0,9,0 0,0,9,0");
        CHECK.boxesOf("<t><r>", "r{p:1}", 9, "0,0,9,2 0,0,9,2 0,0,9,2");
        CHECK.boxesOf("<t><c>x<c>y", "c{d:n;m:3;p:3}", 9, "0,0,9,0 0,0,9,0 0,0,9,0");
        CHECK.boxesOf("<t><cA>x<c>y", "A{d:n}", 9, "0,0,9,1 0,0,9,1 0,0,9,1 0,0,9,1");
        CHECK.boxesOf("<t>", "", 9, "0,0,9,0 0,0,9,0");
    }
}
