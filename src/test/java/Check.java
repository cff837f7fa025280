/** Counts the answers that are not the ones due, and has the ways in which tests look at a page. */
final class Check {
    private int wrong;
    private String sentence = "";

    /** Names the sentence of the document that the checks behind this are of. */
    void of(String quoted) {
        sentence = "[" + quoted + "] ";
    }

    void same(String what, long got, long want) {
        if (got != want) {
            tell(what + " answered " + got + ", due is " + want);
        }
    }

    void same(String what, String got, String want) {
        if (!got.equals(want)) {
            tell(what + " answered " + got + ", due is " + want);
        }
    }

    void holds(String what, boolean is) {
        if (!is) {
            tell(what + " does not hold");
        }
    }

    private void tell(String what) {
        wrong++;
        System.out.println(sentence + what);
    }

    void end() {
        if (wrong > 0) {
            System.exit(1);
        }
    }

    /** The tree that a text becomes, and how many elements are open then. */
    void treeOf(String html, String tree, int open) {
        PlainPage page = page(html, "");
        same(html, tree(page), tree);
        same("open of " + html, page.open(), open);
    }

    /** The tree alone, where it matters little what is open. */
    void treeOf(String html, String tree) {
        same(html, tree(page(html, "")), tree);
    }

    void rulesOf(String css, int rules) {
        same("rules of " + css, page("", css).rules(), rules);
    }

    /** A value of the last node. */
    void valueOf(String html, String css, char property, int want) {
        PlainPage page = page(html, css);
        int got = page.value(page.nodes() - 1, property);
        same(property + " of the last of " + html + " by " + css, got, want);
    }

    /** Whether a selector fits the last node. */
    void fit(String html, String selector, boolean is) {
        valueOf(html, selector + "{m:7}", 'm', is ? 7 : 0);
    }

    /** The boxes of all nodes, from ROOT on; texts, and what has none, are left out. */
    void boxesOf(String html, String css, int width, String boxes) {
        PlainPage page = page(html, css);
        int height = page.layout(width);
        StringBuilder got = new StringBuilder();
        for (int n = 0; n < page.nodes(); n++) {
            String box = box(page, n);
            got.append(box.equals("none") ? "" : (n > 0 ? " " : "") + box);
        }
        same("boxes of " + html + " by " + css + " in " + width, got.toString(), boxes);
        same("height of " + html + " by " + css, height, page.box(0, 3));
    }

    /** The places of all texts, one behind the other, then the lines and the height. */
    void linesOf(String html, String css, int width, String want) {
        PlainPage page = page(html, css);
        int height = page.layout(width);
        StringBuilder got = new StringBuilder();
        for (int n = 0; n < page.nodes(); n++) {
            if (page.name(n) == 1) {
                got.append(places(page, n)).append(" ");
            }
        }
        got.append("lines ").append(page.lines()).append(" height ").append(height);
        same(html + " by " + css + " in " + width, got.toString(), want);
    }

    void pictureOf(String html, String css, int width, int rows, String picture) {
        PlainPage page = page(html, css);
        page.layout(width);
        same(html + " by " + css, picture(page, width, rows), picture);
    }

    static PlainPage page(String html, String css) {
        PlainPage page = new PlainPage();
        html(page, html);
        css(page, css);
        return page;
    }

    /** Types all of it, even behind a refusal; how many characters were taken. */
    static int html(PlainPage page, String html) {
        int taken = 0;
        for (char c : html.toCharArray()) {
            taken += page.html(c) ? 1 : 0;
        }
        return taken;
    }

    static int css(PlainPage page, String css) {
        int taken = 0;
        for (char c : css.toCharArray()) {
            taken += page.css(c) ? 1 : 0;
        }
        return taken;
    }

    /** The tree as a text, such as p('a' bAC('x')) for "<p>a<b AC>x". */
    static String tree(PlainPage page) {
        int nodes = page.nodes();
        if (nodes == PlainPage.NONE) {
            return "broken";
        }
        int[] parents = new int[nodes];
        for (int n = 0; n < nodes; n++) {
            parents[n] = page.parent(n);
        }
        return children(page, parents, 0);
    }

    private static String children(PlainPage page, int[] parents, int parent) {
        StringBuilder out = new StringBuilder();
        for (int n = parent + 1; n < parents.length; n++) {
            if (parents[n] == parent) {
                out.append(out.length() > 0 ? " " : "").append(node(page, parents, n));
            }
        }
        return out.toString();
    }

    private static String node(PlainPage page, int[] parents, int n) {
        int name = page.name(n);
        if (name == 1) {
            return "'" + letters(page, n) + "'";
        }
        return (char) name + classes(page.classes(n)) + "(" + children(page, parents, n) + ")";
    }

    static String letters(PlainPage page, int n) {
        StringBuilder out = new StringBuilder();
        for (int k = 0; page.letter(n, k) != PlainPage.NONE; k++) {
            out.append((char) page.letter(n, k));
        }
        return out.toString();
    }

    private static String classes(int bits) {
        StringBuilder out = new StringBuilder();
        for (int k = 0; k < 32; k++) {
            if ((bits >> k & 1) != 0) {
                out.append((char) ('A' + k));
            }
        }
        return out.toString();
    }

    /** The box of a node as "left,top,width,height", or "none". */
    static String box(PlainPage page, int n) {
        if (page.box(n, 0) == PlainPage.NONE) {
            return "none";
        }
        return page.box(n, 0) + "," + page.box(n, 1) + "," + page.box(n, 2) + "," + page.box(n, 3);
    }

    /** The places of a text's characters as "x,y x,y -". */
    static String places(PlainPage page, int n) {
        StringBuilder out = new StringBuilder();
        for (int k = 0; page.letter(n, k) != PlainPage.NONE; k++) {
            int place = page.place(n, k);
            out.append(k > 0 ? " " : "");
            out.append(place == PlainPage.NONE ? "-" : place % 65536 + "," + place / 65536);
        }
        return out.toString();
    }

    /** A part of the picture, a row of digits for each row, divided by blanks. */
    static String picture(PlainPage page, int columns, int rows) {
        StringBuilder out = new StringBuilder();
        for (int y = 0; y < rows; y++) {
            out.append(y > 0 ? " " : "");
            for (int x = 0; x < columns; x++) {
                int pixel = page.pixel(x, y);
                out.append(pixel == PlainPage.NONE ? "-" : Integer.toString(pixel));
            }
        }
        return out.toString();
    }

    /** All that can be asked of a small page and of the beginning of its picture, as one text. */
    static String answers(PlainPage page) {
        StringBuilder out = new StringBuilder();
        out.append(page.nodes()).append(" nodes, ").append(page.open()).append(" open, ");
        out.append(page.rules()).append(" rules, ").append(page.lines()).append(" lines");
        for (int n = 0; n <= Math.max(0, page.nodes()); n++) {
            out.append(", node ").append(page.name(n)).append(' ').append(page.parent(n));
            out.append(' ').append(page.classes(n)).append(" values");
            for (char property : "cbsdmpw".toCharArray()) {
                out.append(' ').append(page.value(n, property));
            }
            out.append(" box ").append(box(page, n));
            out.append(" letters ").append(letters(page, n));
            out.append(" places ").append(places(page, n));
        }
        return out.append(", picture ").append(picture(page, 7, 7)).toString();
    }

    static String repeat(String part, int times) {
        return part.repeat(times);
    }
}
