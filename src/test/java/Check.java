/** Counts the answers that are not the ones due, and has the ways in which tests look at a page. */
final class Check {
    private int wrong;

    void same(String what, long got, long want) {
        if (got != want) {
            wrong++;
            System.out.println(what + " answered " + got + ", due is " + want);
        }
    }

    void same(String what, String got, String want) {
        if (!got.equals(want)) {
            wrong++;
            System.out.println(what + " answered " + got + ", due is " + want);
        }
    }

    void holds(String what, boolean is) {
        if (!is) {
            wrong++;
            System.out.println(what + " does not hold");
        }
    }

    void end() {
        if (wrong > 0) {
            System.exit(1);
        }
    }

    static PlainPage page(String html, String css) {
        PlainPage page = new PlainPage();
        html(page, html);
        css(page, css);
        return page;
    }

    /** Types all of it, even behind a refusal; how many characters were taken. */
    static int html(PlainPage page, String html) {
        int taken = 0;
        for (char c : html.toCharArray()) {
            taken += page.html(c) ? 1 : 0;
        }
        return taken;
    }

    static int css(PlainPage page, String css) {
        int taken = 0;
        for (char c : css.toCharArray()) {
            taken += page.css(c) ? 1 : 0;
        }
        return taken;
    }

    /** The tree as a text, such as p('a' bAC('x')) for "<p>a<b AC>x". */
    static String tree(PlainPage page) {
        return page.nodes() == PlainPage.NONE ? "broken" : children(page, 0);
    }

    private static String children(PlainPage page, int parent) {
        StringBuilder out = new StringBuilder();
        for (int n = parent + 1; n < page.nodes(); n++) {
            if (page.parent(n) == parent) {
                out.append(out.length() > 0 ? " " : "").append(node(page, n));
            }
        }
        return out.toString();
    }

    private static String node(PlainPage page, int n) {
        if (page.name(n) == 1) {
            return "'" + letters(page, n) + "'";
        }
        return (char) page.name(n) + classes(page.classes(n)) + "(" + children(page, n) + ")";
    }

    static String letters(PlainPage page, int n) {
        StringBuilder out = new StringBuilder();
        for (int k = 0; page.letter(n, k) != PlainPage.NONE; k++) {
            out.append((char) page.letter(n, k));
        }
        return out.toString();
    }

    private static String classes(int bits) {
        StringBuilder out = new StringBuilder();
        for (int k = 0; k < 32; k++) {
            if ((bits >> k & 1) != 0) {
                out.append((char) ('A' + k));
            }
        }
        return out.toString();
    }

    /** The box of a node as "left,top,width,height", or "none". */
    static String box(PlainPage page, int n) {
        if (page.box(n, 0) == PlainPage.NONE) {
            return "none";
        }
        return page.box(n, 0) + "," + page.box(n, 1) + "," + page.box(n, 2) + "," + page.box(n, 3);
    }

    /** The places of a text's characters as "x,y x,y -". */
    static String places(PlainPage page, int n) {
        StringBuilder out = new StringBuilder();
        for (int k = 0; page.letter(n, k) != PlainPage.NONE; k++) {
            int place = page.place(n, k);
            out.append(k > 0 ? " " : "");
            out.append(place == PlainPage.NONE ? "-" : place % 65536 + "," + place / 65536);
        }
        return out.toString();
    }

    /** A part of the picture, a row of digits for each row, divided by blanks. */
    static String picture(PlainPage page, int columns, int rows) {
        StringBuilder out = new StringBuilder();
        for (int y = 0; y < rows; y++) {
            out.append(y > 0 ? " " : "");
            for (int x = 0; x < columns; x++) {
                int pixel = page.pixel(x, y);
                out.append(pixel == PlainPage.NONE ? "-" : Integer.toString(pixel));
            }
        }
        return out.toString();
    }

    static String repeat(String part, int times) {
        return part.repeat(times);
    }
}
