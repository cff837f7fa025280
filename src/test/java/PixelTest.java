/** Promise 17: pixel; PICTURE. */
public final class PixelTest {
    private static final Check CHECK = new Check();

    public static void main(String[] args) {
        letters();
        boxes();
        edges();
        CHECK.end();
    }

    private static void letters() {
        CHECK.pictureOf("ab", "", 3, 2, "100 000");
        CHECK.pictureOf("<d>a", "d{s:2}", 3, 3, "100 000 000");
        CHECK.pictureOf("<d>b", "d{s:2}", 3, 3, "010 000 000");
        CHECK.pictureOf("<d>d", "d{s:2}", 3, 3, "000 100 000");
        CHECK.pictureOf("<d>h", "d{s:2}", 3, 3, "000 010 000");
        CHECK.pictureOf("<d>o", "d{s:2;c:7}", 3, 3, "770 770 000");
        CHECK.pictureOf("<d>p", "d{s:2;c:7}", 3, 3, "000 000 000");
        CHECK.pictureOf("<d>f", "d{s:3}", 4, 3, "0010 0010 1100");
        CHECK.pictureOf("<d>i", "d{s:5;c:4}", 5, 5, "44400 44400 44400 00044 00044");
        CHECK.pictureOf("<d>j", "d{s:4;c:4}", 5, 5, "00440 00440 00440 00440 00000");
        CHECK.pictureOf("a<b>a</b>a", "b{c:3}", 3, 1, "131");
        CHECK.pictureOf("a a", "", 3, 1, "101");
    }

    private static void boxes() {
        CHECK.pictureOf("<d>", "d{b:2;p:1}", 4, 3, "2222 2222 0000");
        CHECK.pictureOf("<d>a", "d{b:2;m:1;p:1;w:1}", 6, 5, "000000 022200 021200 022200 000000");
        CHECK.pictureOf("<d><p>b", "d{b:2;p:1}p{b:3}", 5, 4, "22222 23332 22222 00000");
        CHECK.pictureOf("<d><p>b", "d{b:2;p:1}", 5, 4, "22222 22222 22222 00000");
        CHECK.pictureOf("<d>ac", "d{b:2;c:0}", 3, 1, "002");
        CHECK.pictureOf("<d>a", "b{b:2}", 3, 1, "100");
        CHECK.pictureOf("<b>a", "b{b:2}", 3, 1, "100");
        CHECK.pictureOf("<t><c>b<c>b", "cA{b:1}c{b:5}t{b:6}", 5, 1, "55556");
        CHECK.pictureOf("<d>b<p>b", "d{b:2;w:1}p{b:3;w:3}", 5, 3, "20000 33300 00000");
        CHECK.pictureOf("<d>oo</d>", "d{w:1}", 2, 1, "11");
        CHECK.pictureOf("<dA>o</d><d>p", "A{w:9}d{w:1;b:4}A{b:0}", 3, 2, "100 400");
        CHECK.pictureOf("<hA>", "h{b:3;p:1}A{d:n}", 3, 2, "000 000");
        CHECK.pictureOf("<d>b</d>", "d{w:9;b:8}", 3, 1, "888");
    }

    private static void edges() {
        PlainPage page = Check.page("<d>a", "d{b:2}");
        CHECK.same("pixel without a layout", page.pixel(0, 0), -1);
        page.layout(5);
        int[] out = {-1, 64, Integer.MAX_VALUE, Integer.MIN_VALUE};
        for (int far : out) {
            CHECK.same("pixel in column " + far, page.pixel(far, 0), -1);
            CHECK.same("pixel in row " + far, page.pixel(0, far), -1);
        }
        CHECK.same("pixel in column 4", page.pixel(4, 0), 2);
        CHECK.same("pixel in column 5", page.pixel(5, 0), -1);
        CHECK.same("pixel in row 63", page.pixel(0, 63), 0);
        page.layout(64);
        CHECK.same("pixel in column 63", page.pixel(63, 0), 2);
        page = Check.page("<d>", "d{b:2;p:40}");
        CHECK.same("a high page", page.layout(5), 80);
        CHECK.same("its row 63", page.pixel(0, 63), 2);
        CHECK.same("its row 64", page.pixel(0, 64), -1);
        page = Check.page("<d>o", "d{s:9;m:60;w:1}");
        page.layout(64);
        CHECK.same("a letter that is half outside", page.pixel(63, 63), 1);
        CHECK.same("beside it", page.pixel(59, 63), 0);
    }
}
