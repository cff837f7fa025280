/** PICTURE: a test for each sentence that names a boundary case. */
public final class PictureEdgesTest {
    private static final Check CHECK = new Check();

    public static void main(String[] args) {
        allNought();
        groundNought();
        rectangles();
        boxesInOrder();
        charactersAboveBoxes();
        charactersInOrder();
        coloursOfCharacters();
        lowestBit();
        fourBits();
        quarters();
        columnsOutside();
        rowsOutside();
        charactersOutside();
        CHECK.end();
    }

    private static void allNought() {
        CHECK.of("V columns and 64 rows (what is outside is not seen), all 0");
        CHECK.pictureOf("", "", 2, 65, Check.repeat("00 ", 64) + "--");
        CHECK.pictureOf("<d>", "", 3, 1, "000");
    }

    private static void groundNought() {
        CHECK.of("each box with a b that is not 0 fills its rectangle with it");
        CHECK.pictureOf("<d><u>", "d{b:2;p:1}u{b:0;p:1}", 5, 5, "22222 22222 22222 22222 00000");
        CHECK.pictureOf("<d><u>", "d{b:2;p:1}u{b:1;p:1}", 5, 5, "22222 21112 21112 22222 00000");
        CHECK.pictureOf("<d><u>", "d{b:2;p:1}u{b:9;p:1}", 5, 5, "22222 29992 29992 22222 00000");
        CHECK.pictureOf("<a>p", "a{b:2}", 3, 1, "000");
        CHECK.pictureOf("<a>p", "a{b:2;d:b}", 3, 1, "222");
        CHECK.pictureOf("<d>p", "d{b:2;d:n}", 3, 1, "000");
    }

    private static void rectangles() {
        CHECK.of("fills its rectangle");
        CHECK.pictureOf("<d>p", "d{b:2;m:1;w:2}", 5, 3, "00000 02200 00000");
        CHECK.pictureOf("<d>", "d{b:2;m:1;w:0;p:1}", 5, 4, "00000 02200 02200 00000");
        CHECK.pictureOf("<d>", "d{b:2}", 3, 2, "000 000");
        CHECK.pictureOf("<d>p", "d{b:2;w:0}", 3, 2, "000 000");
        CHECK.pictureOf("<d>p", "d{b:2;w:1}", 3, 2, "200 000");
        CHECK.pictureOf("<h>", "h{b:2}", 3, 2, "222 000");
    }

    private static void boxesInOrder() {
        CHECK.of("each box .. fills its rectangle with it, in document order");
        CHECK.pictureOf("<t><cA>p<c>p", "c{b:3}A{b:2;w:9}", 6, 1, "222333");
        CHECK.pictureOf("<t><cA>p<c>p", "A{b:2;w:9}", 6, 1, "222222");
        CHECK.pictureOf("<t><c>p", "t{b:4}r{b:5;w:4}c{b:6;w:2}", 6, 1, "665544");
        CHECK.pictureOf("<t><c>p</c><d>p", "d{b:4}t{b:5}", 3, 2, "444 555");
    }

    private static void charactersAboveBoxes() {
        CHECK.of("then each character that has a place");
        CHECK.pictureOf("<t><cA>ooooo<c>p", "c{b:3}A{b:2}", 6, 1, "111113");
        CHECK.pictureOf("<d>o", "d{b:2}", 3, 1, "122");
        CHECK.pictureOf("<d>o o", "d{b:2}", 4, 1, "1212");
        CHECK.pictureOf("<a>o</a>p", "a{d:n}", 3, 1, "000");
    }

    private static void charactersInOrder() {
        CHECK.of("each character that has a place, in document order");
        CHECK.pictureOf("<t><cA>oooo<cB>o", "A{c:2}B{c:3}", 4, 1, "2232");
        CHECK.pictureOf("<t><cA>oooo<cB>p", "A{c:2}B{c:3}", 4, 1, "2222");
        CHECK.pictureOf("<t><cA>oooo<cB>o", "A{c:2}B{c:0}", 4, 1, "2202");
    }

    private static void coloursOfCharacters() {
        CHECK.of("colour c (of its text's parent)");
        CHECK.pictureOf("o<a>o</a>o", "a{c:3}", 3, 1, "131");
        CHECK.pictureOf("<d>oo", "d{c:0;b:2}", 3, 1, "002");
        CHECK.pictureOf("<d>oo", "d{c:9;b:2}", 3, 1, "992");
        CHECK.pictureOf("<d><a>o", "d{c:9}", 3, 1, "900");
    }

    /** A character as it is typed. */
    private static String typed(char c) {
        return c == '<' ? "&l;" : c == '&' ? "&a;" : String.valueOf(c);
    }

    private static void lowestBit() {
        CHECK.of("pixel (x + i, y + j) becomes c if bit 2 * (2 * j / s) + 2 * i / s of a is set");
        for (char c = 33; c <= 126; c++) {
            CHECK.pictureOf(typed(c), "", 2, 2, (c & 1) + "0 00");
        }
    }

    private static void fourBits() {
        CHECK.of("pixel (x + i, y + j) becomes c if bit 2 * (2 * j / s) + 2 * i / s of a is set");
        for (char c = 33; c <= 126; c++) {
            String upper = (c & 1) + "" + (c >> 1 & 1);
            String lower = (c >> 2 & 1) + "" + (c >> 3 & 1);
            CHECK.pictureOf("<d>" + typed(c), "d{s:2}", 3, 3, upper + "0 " + lower + "0 000");
        }
    }

    /** Each of these letters has one of its lowest four bits; the first half is the greater one. */
    private static void quarters() {
        CHECK.of("(quotients rounded down)");
        for (int size = 1; size <= 9; size++) {
            int half = (size + 1) / 2;
            quarter('a', size, 0, 0, half, half);
            quarter('b', size, half, 0, size, half);
            quarter('d', size, 0, half, half, size);
            quarter('h', size, half, half, size, size);
        }
    }

    private static void quarter(char c, int size, int left, int top, int right, int bottom) {
        StringBuilder due = new StringBuilder();
        for (int y = 0; y <= size; y++) {
            due.append(y > 0 ? " " : "");
            for (int x = 0; x <= size; x++) {
                due.append(x >= left && x < right && y >= top && y < bottom ? '1' : '0');
            }
        }
        CHECK.pictureOf("<d>" + c, "d{s:" + size + "}", size + 1, size + 1, due.toString());
    }

    private static void columnsOutside() {
        CHECK.of("(what is outside is not seen)");
        CHECK.pictureOf("<d>p", "d{b:2;w:2}", 3, 1, "220");
        CHECK.pictureOf("<d>p", "d{b:2;w:3}", 3, 1, "222");
        CHECK.pictureOf("<d>p", "d{b:2;w:4}", 3, 1, "222");
        CHECK.pictureOf("<d>p", "d{b:2;w:99}", 3, 1, "222");
        CHECK.pictureOf("<d>", "d{b:2;m:1;p:3}", 2, 3, "00 02 02");
        CHECK.pictureOf("<d>", "d{b:2;m:2;p:3}", 2, 4, "00 00 00 00");
    }

    private static void rowsOutside() {
        CHECK.of("V columns and 64 rows (what is outside is not seen)");
        lastRows("<d>p", "d{p:31;b:2}", 63, 2, 0);
        lastRows("<d>", "d{p:32;b:2}", 64, 2, 2);
        lastRows("<d>p", "d{p:32;b:2}", 65, 2, 2);
        lastRows("<h><d>p", "h{p:31}d{b:2}", 64, 0, 2);
        lastRows("<h><d>p", "h{p:32}d{b:2}", 66, 0, 0);
    }

    private static void lastRows(String html, String css, int height, int row62, int row63) {
        PlainPage page = Check.page(html, css);
        CHECK.same("height of " + html + " by " + css, page.layout(9), height);
        CHECK.same("row 62 of " + html + " by " + css, page.pixel(0, 62), row62);
        CHECK.same("row 63 of " + html + " by " + css, page.pixel(0, 63), row63);
        CHECK.same("row 64 of " + html + " by " + css, page.pixel(0, 64), -1);
    }

    private static void charactersOutside() {
        CHECK.of("(what is outside is not seen)");
        CHECK.pictureOf("oo", "", 3, 1, "110");
        CHECK.pictureOf("ooo", "", 2, 1, "11");
        CHECK.pictureOf("<d>o", "d{s:2}", 1, 3, "1 1 0");
        PlainPage page = Check.page("<d>o", "d{p:63;s:3}");
        page.layout(64);
        CHECK.same("a character in the last corner", page.pixel(63, 63), 1);
        CHECK.same("left of it", page.pixel(62, 63), 0);
        CHECK.same("above it", page.pixel(63, 62), 0);
        page = Check.page("<d>o", "d{p:64;s:3}");
        page.layout(64);
        CHECK.same("a character outside", page.pixel(63, 63), 0);
        CHECK.same("its place", page.place(2, 0), 64 + 65536 * 64);
    }
}
