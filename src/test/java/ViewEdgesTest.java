/** Promises 11 to 17: what each call answers at its limits, without a layout, broken and cleared. */
public final class ViewEdgesTest {
    private static final Check CHECK = new Check();
    private static final int[] FAR = {Integer.MIN_VALUE, -65536, -2, -1, 65536, Integer.MAX_VALUE};
    private static final String BREAKING = "<a><a><a><a><a><a><a><a><a><a><a><a>"
            + "<a><a><a><a><a><a><a><a><a><a><a><a>";

    public static void main(String[] args) {
        rules();
        rulesOfABrokenPage();
        values();
        valuesOfWrongNodes();
        valuesOfWrongProperties();
        valuesThatAreNone();
        widths();
        refusedWidths();
        heights();
        layoutOfABrokenPage();
        anotherLayout();
        boxes();
        noBoxes();
        wrongQuestionsOfBoxes();
        places();
        noPlaces();
        lines();
        noLines();
        pixels();
        noPixels();
        withoutALayout();
        behindRefusedCalls();
        CHECK.end();
    }

    private static void rules() {
        CHECK.of("rules: How many rules count.");
        PlainPage page = new PlainPage();
        CHECK.same("rules of a new page", page.rules(), 0);
        for (int count = 1; count <= 14; count++) {
            Check.css(page, "a{");
            CHECK.same("rules before the '}'", page.rules(), Math.min(12, count - 1));
            page.css('}');
            CHECK.same("rules behind the '}'", page.rules(), Math.min(12, count));
            Check.css(page, "1{}");
            CHECK.same("rules behind a wrong one", page.rules(), Math.min(12, count));
        }
        page.css((char) 31);
        CHECK.same("rules behind a refused call", page.rules(), 12);
        page.clear();
        CHECK.same("rules of a cleared page", page.rules(), 0);
        Check.css(page, "a{}");
        CHECK.same("rules typed then", page.rules(), 1);
    }

    private static void rulesOfABrokenPage() {
        CHECK.of("rules: .. (Also of a broken page.)");
        PlainPage page = Check.page("", "a{}b{}");
        Check.html(page, BREAKING);
        CHECK.same("rules", page.rules(), 2);
        Check.css(page, "c{}");
        CHECK.same("rules of css in a broken page", page.rules(), 3);
        Check.html(page, "x");
        CHECK.same("rules behind a refused html", page.rules(), 3);
        CHECK.same("rules of none", Check.page(BREAKING, "").rules(), 0);
        CHECK.same("rules of 13", Check.page(BREAKING, Check.repeat("a{}", 13)).rules(), 12);
        page.clear();
        CHECK.same("rules of a cleared page", page.rules(), 0);
    }

    private static void values() {
        CHECK.of("value: The value of the property c, b, s, d, m, p or w of element n");
        PlainPage page = Check.page("x<z>", "z{c:2;b:3;s:4;d:n;m:56;p:78;w:90}");
        int[] due = {2, 3, 4, 'n', 56, 78, 90};
        for (int i = 0; i < 7; i++) {
            CHECK.same("value " + i, page.value(2, "cbsdmpw".charAt(i)), due[i]);
        }
        page.html((char) 31);
        CHECK.same("value behind a refused html", page.value(2, 'm'), 56);
        page.css((char) 31);
        CHECK.same("value behind a refused css", page.value(2, 'm'), 56);
        page.layout(0);
        CHECK.same("value behind a refused layout", page.value(2, 'm'), 56);
        page.layout(9);
        CHECK.same("value behind a layout", page.value(2, 'm'), 56);
        Check.html(page, "</z><y>");
        CHECK.same("value of a later element", page.value(3, 'm'), 0);
        page.clear();
        Check.html(page, "<z>");
        CHECK.same("value behind clear", page.value(1, 'm'), 0);
    }

    private static void valuesOfWrongNodes() {
        CHECK.of("value: .. of element n (not ROOT); NONE when .. n is not such an element");
        PlainPage page = Check.page("x<z>y", "*{m:3}");
        for (char property : "cbsdmpw".toCharArray()) {
            CHECK.same(property + " of ROOT", page.value(0, property), -1);
            CHECK.same(property + " of a text", page.value(1, property), -1);
            CHECK.same(property + " of another text", page.value(3, property), -1);
            CHECK.same(property + " of no node", page.value(4, property), -1);
            for (int n : FAR) {
                CHECK.same(property + " of " + n, page.value(n, property), -1);
            }
        }
        CHECK.same("m of the element", page.value(2, 'm'), 3);
        CHECK.same("m in a new page", new PlainPage().value(0, 'm'), -1);
        CHECK.same("m in a broken page", Check.page(BREAKING, "*{m:3}").value(1, 'm'), -1);
    }

    private static void valuesOfWrongProperties() {
        CHECK.of("value: .. NONE when it is none of these");
        PlainPage page = Check.page("<z>", "z{c:2;b:3;s:4;m:5;p:6;w:7}");
        for (int c = 0; c < 300; c++) {
            boolean isRight = "cbsdmpw".indexOf(c) >= 0;
            CHECK.holds("property " + c, page.value(1, (char) c) != -1 == isRight);
        }
        CHECK.same("property 256 + 'm'", page.value(1, (char) (256 + 'm')), -1);
        CHECK.same("property 65535", page.value(1, (char) 65535), -1);
    }

    private static void valuesThatAreNone() {
        CHECK.of("value: .. (w may be NONE itself.)");
        CHECK.valueOf("<z>", "", 'w', -1);
        CHECK.valueOf("<z>", "z{w:0}", 'w', 0);
        CHECK.valueOf("<y><z>", "y{w:3}", 'w', -1);
    }

    private static void widths() {
        CHECK.of("layout: Lays the page out for the width v .. NONE, changing nothing, when v is not "
                + "1 .. 64");
        for (int v = -2; v <= 67; v++) {
            PlainPage page = Check.page("<d>p", "d{b:2}");
            boolean isRight = v >= 1 && v <= 64;
            CHECK.same("layout of " + v, page.layout(v), isRight ? 1 : -1);
            CHECK.same("lines in " + v, page.lines(), isRight ? 1 : -1);
            CHECK.same("width in " + v, page.box(0, 2), isRight ? v : -1);
            CHECK.same("width of the d in " + v, page.box(1, 2), isRight ? v : -1);
            CHECK.same("last column in " + v, page.pixel(v - 1, 0), isRight ? 2 : -1);
            CHECK.same("one more column in " + v, page.pixel(v, 0), -1);
        }
        for (int far : FAR) {
            CHECK.same("layout of " + far, Check.page("p", "").layout(far), -1);
        }
    }

    private static void refusedWidths() {
        CHECK.of("layout: .. NONE, changing nothing, when v is not 1 .. 64");
        for (int v : new int[] {0, 65, -1, 66, Integer.MIN_VALUE, Integer.MAX_VALUE}) {
            PlainPage page = Check.page("<d>ab c", "d{b:2;s:2}");
            page.layout(7);
            String before = Check.answers(page);
            CHECK.same("layout of " + v, page.layout(v), -1);
            CHECK.same("answers behind layout of " + v, Check.answers(page), before);
            page = Check.page("<d>ab c", "d{b:2;s:2}");
            before = Check.answers(page);
            CHECK.same("layout of " + v, page.layout(v), -1);
            CHECK.same("answers behind a first layout of " + v, Check.answers(page), before);
        }
    }

    private static void heights() {
        CHECK.of("layout: .. the height of ROOT's box");
        CHECK.same("height of nothing", new PlainPage().layout(1), 0);
        CHECK.same("height of a character", Check.page("x", "").layout(1), 1);
        CHECK.same("height of a box", Check.page("<d>", "d{p:99;m:99}").layout(1), 396);
        CHECK.same("height without what is hidden", Check.page("<d>x", "d{d:n}").layout(1), 0);
    }

    private static void layoutOfABrokenPage() {
        CHECK.of("layout: .. NONE, changing nothing, when .. the page is broken");
        PlainPage page = Check.page(BREAKING, "a{}");
        String before = Check.answers(page);
        for (int v : new int[] {0, 1, 9, 64, 65}) {
            CHECK.same("layout of " + v, page.layout(v), -1);
        }
        CHECK.same("answers behind it", Check.answers(page), before);
        CHECK.same("lines", page.lines(), -1);
        CHECK.same("pixel", page.pixel(0, 0), -1);
        page.clear();
        CHECK.same("layout behind clear", page.layout(9), 0);
    }

    private static void anotherLayout() {
        CHECK.of("layout: .. (A layout that was there is gone.)");
        PlainPage page = Check.page("<d>aa aa", "d{b:2;s:2}");
        CHECK.same("the first", page.layout(64), 2);
        CHECK.same("lines of the first", page.lines(), 1);
        CHECK.same("its column 63", page.pixel(63, 0), 2);
        CHECK.same("the second", page.layout(5), 4);
        CHECK.same("lines of the second", page.lines(), 2);
        CHECK.same("its width", page.box(0, 2), 5);
        CHECK.same("its column 63", page.pixel(63, 0), -1);
        CHECK.same("a place in it", page.place(2, 3), 65536 * 2);
        CHECK.same("the third", page.layout(64), 2);
        CHECK.same("lines of the third", page.lines(), 1);
        CHECK.same("a place in it", page.place(2, 3), 6);
        Check.css(page, "d{d:n}");
        CHECK.same("the hidden", page.layout(64), 0);
        CHECK.same("lines of the hidden", page.lines(), 0);
        CHECK.same("its place", page.place(2, 3), -1);
        CHECK.same("its box", page.box(1, 0), -1);
        CHECK.same("its pixel", page.pixel(0, 0), 0);
    }

    private static void boxes() {
        CHECK.of("box: .. what = 0 the left edge, 1 the upper edge (both of the box without m, counted "
                + "from ROOT's), 2 the width (with 2p), 3 the height");
        PlainPage page = Check.page("<d><u>x", "d{m:1;p:2}u{m:3;p:4}");
        page.layout(40);
        int[][] due = {{0, 0, 40, 21}, {1, 1, 38, 19}, {6, 6, 28, 9}};
        for (int n = 0; n < 3; n++) {
            for (int what = 0; what < 4; what++) {
                CHECK.same("box(" + n + ", " + what + ")", page.box(n, what), due[n][what]);
            }
        }
    }

    private static void noBoxes() {
        CHECK.of("box: .. NONE when there is .. no such box");
        PlainPage page = Check.page("x<a>y</a><dA>z</d><d>", "A{d:n}");
        page.layout(9);
        for (int what = 0; what < 4; what++) {
            CHECK.same("box of a text", page.box(1, what), -1);
            CHECK.same("box of an a", page.box(2, what), -1);
            CHECK.same("box of the hidden", page.box(4, what), -1);
            CHECK.same("box of no node", page.box(7, what), -1);
            for (int n : FAR) {
                CHECK.same("box of " + n, page.box(n, what), -1);
            }
        }
        CHECK.same("width of ROOT", page.box(0, 2), 9);
        CHECK.same("width of the d", page.box(6, 2), 9);
    }

    private static void wrongQuestionsOfBoxes() {
        CHECK.of("box: .. NONE when .. what is none of these");
        PlainPage page = Check.page("<d>x", "d{m:1}");
        page.layout(9);
        for (int n = 0; n <= 1; n++) {
            CHECK.same("box(n, 3)", page.box(n, 3), n == 0 ? 3 : 1);
            for (int what : new int[] {4, 5, 7, 8, 256}) {
                CHECK.same("box(n, " + what + ")", page.box(n, what), -1);
            }
            for (int what : FAR) {
                CHECK.same("box(n, " + what + ")", page.box(n, what), -1);
            }
        }
    }

    private static void places() {
        CHECK.of("place: .. x + 65536 * y of its upper left corner");
        PlainPage page = Check.page("a<d>b<a>c", "d{m:2;p:1;s:2}a{s:3}");
        page.layout(40);
        CHECK.same("place of a", page.place(1, 0), 0);
        CHECK.same("place of b", page.place(3, 0), 3 + 65536 * 5);
        CHECK.same("place of c", page.place(5, 0), 5 + 65536 * 4);
    }

    private static void noPlaces() {
        CHECK.of("place: .. NONE when there is .. no such character, or it has no place");
        PlainPage page = Check.page("ab c<a>x</a><d>y", "a{d:n}");
        page.layout(9);
        CHECK.same("place(1, 0)", page.place(1, 0), 0);
        CHECK.same("place(1, 1)", page.place(1, 1), 1);
        CHECK.same("place of a blank", page.place(1, 2), -1);
        CHECK.same("place(1, 3)", page.place(1, 3), 3);
        CHECK.same("place(1, 4)", page.place(1, 4), -1);
        CHECK.same("place of the hidden", page.place(3, 0), -1);
        CHECK.same("place in ROOT", page.place(0, 0), -1);
        CHECK.same("place in an a", page.place(2, 0), -1);
        CHECK.same("place in a d", page.place(4, 0), -1);
        CHECK.same("place(5, 0)", page.place(5, 0), 65536);
        CHECK.same("place(5, 1)", page.place(5, 1), -1);
        CHECK.same("place(6, 0)", page.place(6, 0), -1);
        for (int far : FAR) {
            CHECK.same("place(1, " + far + ")", page.place(1, far), -1);
            CHECK.same("place(" + far + ", 0)", page.place(far, 0), -1);
        }
    }

    private static void lines() {
        CHECK.of("lines: How many lines the layout has (those without a word, too)");
        CHECK.linesOf("", "", 9, "lines 0 height 0");
        CHECK.linesOf("<k>", "", 9, "lines 1 height 1");
        CHECK.linesOf("a<k><k>b<d>c</d><t><c>d<c>e f", "", 3,
                "0,0 0,2 0,3 0,4 1,4 - 1,5 lines 7 height 6");
        CHECK.linesOf("<d>x<k></d>", "d{d:n}", 9, "- lines 0 height 0");
    }

    private static void noLines() {
        CHECK.of("lines: .. NONE when there is none");
        PlainPage page = new PlainPage();
        CHECK.same("lines of a new page", page.lines(), -1);
        page.layout(0);
        CHECK.same("lines behind a refused layout", page.lines(), -1);
        page.layout(9);
        CHECK.same("lines of an empty layout", page.lines(), 0);
        page.layout(65);
        CHECK.same("lines behind another refused layout", page.lines(), 0);
        page.html('x');
        CHECK.same("lines behind html", page.lines(), -1);
        page.layout(9);
        CHECK.same("lines of a layout", page.lines(), 1);
        page.css('x');
        CHECK.same("lines behind css", page.lines(), -1);
        page.layout(9);
        page.clear();
        CHECK.same("lines behind clear", page.lines(), -1);
        CHECK.same("lines of a broken page", Check.page(BREAKING, "").lines(), -1);
    }

    private static void pixels() {
        CHECK.of("pixel: The pixel in column x, row y of the picture");
        PlainPage page = Check.page("<d>", "d{b:2;p:32}");
        page.layout(64);
        for (int x : new int[] {0, 1, 62, 63}) {
            for (int y : new int[] {0, 1, 62, 63}) {
                CHECK.same("pixel(" + x + ", " + y + ")", page.pixel(x, y), 2);
            }
        }
        page = Check.page("<d>", "d{b:2;p:1;m:1}");
        page.layout(4);
        CHECK.same("the picture", Check.picture(page, 4, 4), "0000 0220 0220 0000");
    }

    private static void noPixels() {
        CHECK.of("pixel: .. NONE when .. x is not 0 .. V - 1, or y is not 0 .. 63");
        for (int width : new int[] {1, 2, 63, 64}) {
            PlainPage page = Check.page("<d>", "d{b:2;p:40}");
            page.layout(width);
            CHECK.same("pixel(V - 1, 63)", page.pixel(width - 1, 63), 2);
            CHECK.same("pixel(0, 0)", page.pixel(0, 0), 2);
            CHECK.same("pixel(V, 0)", page.pixel(width, 0), -1);
            CHECK.same("pixel(V, 63)", page.pixel(width, 63), -1);
            CHECK.same("pixel(0, 64)", page.pixel(0, 64), -1);
            CHECK.same("pixel(V - 1, 64)", page.pixel(width - 1, 64), -1);
            for (int far : FAR) {
                CHECK.same("pixel(" + far + ", 0)", page.pixel(far, 0), -1);
                CHECK.same("pixel(0, " + far + ")", page.pixel(0, far), -1);
            }
        }
    }

    private static void withoutALayout() {
        CHECK.of("NONE when there is no layout");
        PlainPage typed = Check.page("x<d>y", "");
        PlainPage cleared = Check.page("x<d>y", "");
        cleared.layout(9);
        cleared.clear();
        Check.html(cleared, "x<d>y");
        PlainPage taken = Check.page("x<d>", "");
        taken.layout(9);
        taken.html('y');
        PlainPage refused = Check.page("x<d>y", "");
        refused.layout(65);
        for (PlainPage page : new PlainPage[] {typed, cleared, taken, refused}) {
            CHECK.same("lines", page.lines(), -1);
            for (int what = 0; what < 4; what++) {
                CHECK.same("box of ROOT", page.box(0, what), -1);
                CHECK.same("box of the d", page.box(2, what), -1);
            }
            CHECK.same("place of x", page.place(1, 0), -1);
            CHECK.same("place of y", page.place(3, 0), -1);
            CHECK.same("pixel", page.pixel(0, 0), -1);
            CHECK.same("layout", page.layout(9), 2);
            CHECK.same("lines then", page.lines(), 2);
            CHECK.same("box of the d then", Check.box(page, 2), "0,1,9,1");
            CHECK.same("place of y then", page.place(3, 0), 65536);
            CHECK.same("pixel then", page.pixel(0, 1), 'y' & 1);
        }
    }

    private static void behindRefusedCalls() {
        CHECK.of("changing nothing");
        PlainPage page = Check.page("x<d>y", "d{b:2}");
        page.layout(5);
        String before = Check.answers(page);
        page.html((char) 31);
        page.css((char) 127);
        page.layout(0);
        page.layout(65);
        page.name(99);
        page.parent(-1);
        page.classes(99);
        page.letter(1, 99);
        page.value(0, 'x');
        page.box(2, 9);
        page.place(1, 99);
        page.pixel(5, 64);
        CHECK.same("answers", Check.answers(page), before);
    }
}
