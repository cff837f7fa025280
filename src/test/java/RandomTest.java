import java.util.Random;

/** Whatever is called, no call fails, the same calls answer the same, and the tree is one. */
public final class RandomTest {
    private static final Check CHECK = new Check();
    private static final String TAGS = "pdulhtrckbisa";
    private static final String TEXT = "abc  <&;!/>AB&l";
    private static final String SHEET = "pdtrcbA*> {}{}cbsdmpw::;;!0123bin";

    public static void main(String[] args) {
        for (int seed = 0; seed < 8000; seed++) {
            PlainPage fresh = new PlainPage();
            int[] first = answers(fresh, seed);
            looksLikeATree(fresh, seed);
            PlainPage used = new PlainPage();
            answers(used, seed + 1);
            used.clear();
            int[] second = answers(used, seed);
            CHECK.holds("same answers of seed " + seed, java.util.Arrays.equals(first, second));
        }
        CHECK.end();
    }

    /** So few that an object used twice, or looked at as a tree, stays within its 512 calls. */
    private static int[] answers(PlainPage page, int seed) {
        Random random = new Random(seed);
        int[] answers = new int[90];
        String tags = TAGS.substring(random.nextInt(TAGS.length()));
        for (int i = 0; i < answers.length; i++) {
            answers[i] = call(page, random, tags);
        }
        return answers;
    }

    private static int call(PlainPage page, Random random, String tags) {
        int n = random.nextInt(27) - 1;
        int k = random.nextInt(10) - 1;
        switch (random.nextInt(28)) {
            case 0: return page.nodes();
            case 1: return page.name(n);
            case 2: return page.parent(n);
            case 3: return page.classes(n);
            case 4: return page.letter(n, k);
            case 5: return page.open();
            case 6: return page.rules();
            case 7: return page.value(n, "cbsdmpwx".charAt(random.nextInt(8)));
            case 8: return page.layout(random.nextInt(67));
            case 9: return page.box(n, random.nextInt(6) - 1);
            case 10: return page.place(n, k);
            case 11: return page.lines();
            case 12: return page.pixel(n, k);
            case 13: return page.html((char) random.nextInt(140)) ? 1 : 0;
            case 14: return page.css((char) random.nextInt(140)) ? 1 : 0;
            case 15: return Check.css(page, "*{s:2}pA{m:1;p:2}".substring(random.nextInt(17)));
            case 16: return page.html(any(TEXT, random)) ? 1 : 0;
            case 17:
            case 18:
            case 19: return page.css(any(SHEET, random)) ? 1 : 0;
            case 20: return Check.html(page, "</" + any(tags, random) + ">");
            default: return Check.html(page, "<" + any(tags, random) + ">");
        }
    }

    private static char any(String from, Random random) {
        return from.charAt(random.nextInt(from.length()));
    }

    private static void looksLikeATree(PlainPage page, int seed) {
        int nodes = page.nodes();
        if (nodes == PlainPage.NONE) {
            return;
        }
        CHECK.holds("nodes of seed " + seed, nodes >= 1 && nodes <= 24);
        CHECK.holds("open of seed " + seed, page.open() >= 1 && page.open() <= nodes);
        for (int n = 1; n < nodes; n++) {
            int parent = page.parent(n);
            int above = page.name(parent);
            int name = page.name(n);
            CHECK.holds("parent of " + n + ", seed " + seed, parent >= 0 && parent < n
                    && above != 1 && above != 'h' && above != 'k');
            CHECK.holds("name of " + n + ", seed " + seed, name != 0 && name != -1);
            CHECK.holds("text of " + n + ", seed " + seed, name == 1 == (page.letter(n, 0) != -1));
            // In a t there are r alone, in an r c alone, and these nowhere else.
            CHECK.holds("table of " + n + ", seed " + seed,
                    (name == 'r') == (above == 't') && (name == 'c') == (above == 'r'));
        }
    }
}
