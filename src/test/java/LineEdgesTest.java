/** LINES: a test for each sentence that names a boundary case. */
public final class LineEdgesTest {
    private static final Check CHECK = new Check();

    public static void main(String[] args) {
        sizesOfCharacters();
        wordsAcrossElements();
        whatInterruptsWords();
        whatFitsTheLine();
        whatFitsWithTheGap();
        atTheBeginning();
        theFirstBlank();
        breaksEndLines();
        breaksAtTheEnd();
        heightOfBreaks();
        noOtherEmptyLines();
        heightOfLines();
        lowerEdge();
        blanksHaveNoPlace();
        CHECK.end();
    }

    private static void sizesOfCharacters() {
        CHECK.of("A character has the size s of its text's parent, it is s wide and s high");
        CHECK.linesOf("<d>ab", "", 64, "0,0 1,0 lines 1 height 1");
        CHECK.linesOf("<d>ab", "d{s:2}", 64, "0,0 2,0 lines 1 height 2");
        CHECK.linesOf("<d>ab", "d{s:9}", 64, "0,0 9,0 lines 1 height 9");
        CHECK.linesOf("<d><a>b", "d{s:9}a{s:3}", 64, "0,0 lines 1 height 3");
    }

    private static void wordsAcrossElements() {
        CHECK.of("A WORD is a row of characters without blank");
        CHECK.linesOf("a<b>b</b>c", "", 2, "0,0 1,0 2,0 lines 1 height 1");
        CHECK.linesOf("a<b>b c</b>d", "", 2, "0,0 1,0 - 0,1 1,1 lines 2 height 2");
        CHECK.linesOf("x a<b>b</b>", "", 3, "0,0 - 0,1 1,1 lines 2 height 2");
        CHECK.linesOf("x a<b>b</b>", "", 4, "0,0 - 2,0 3,0 lines 1 height 1");
        CHECK.linesOf("a<d>b</d>c", "", 9, "0,0 0,1 0,2 lines 3 height 3");
    }

    private static void whatInterruptsWords() {
        CHECK.of("that no blank and no k (not a box) interrupts");
        CHECK.linesOf("a<b> </b>c", "", 2, "0,0 - 0,1 lines 2 height 2");
        CHECK.linesOf("a<k>b", "", 9, "0,0 0,1 lines 2 height 2");
        CHECK.linesOf("a<k>b", "k{d:b;p:1}", 9, "0,0 0,3 lines 2 height 4");
        CHECK.linesOf("a<k>b", "k{d:n}", 1, "0,0 1,0 lines 1 height 1");
        CHECK.linesOf("a<s> </s>b", "s{d:n}", 1, "0,0 - 1,0 lines 1 height 1");
    }

    private static void whatFitsTheLine() {
        CHECK.of("if its width and that together with what is on the line are at most the content width");
        CHECK.linesOf("ab cd", "", 6, "0,0 1,0 - 3,0 4,0 lines 1 height 1");
        CHECK.linesOf("ab cd", "", 5, "0,0 1,0 - 3,0 4,0 lines 1 height 1");
        CHECK.linesOf("ab cd", "", 4, "0,0 1,0 - 0,1 1,1 lines 2 height 2");
        CHECK.linesOf("a b c", "", 5, "0,0 - 2,0 - 4,0 lines 1 height 1");
        CHECK.linesOf("a b c", "", 4, "0,0 - 2,0 - 0,1 lines 2 height 2");
        CHECK.linesOf("a b c", "", 3, "0,0 - 2,0 - 0,1 lines 2 height 2");
        CHECK.linesOf("a b c", "", 2, "0,0 - 0,1 - 0,2 lines 3 height 3");
        CHECK.linesOf("<d>ab cd", "d{m:1;p:1}", 9, "2,2 3,2 - 5,2 6,2 lines 1 height 5");
        CHECK.linesOf("<d>ab cd", "d{m:1;p:1}", 8, "2,2 3,2 - 2,3 3,3 lines 2 height 6");
    }

    private static void whatFitsWithTheGap() {
        CHECK.of("if its width and that together with what is on the line are at most the content width");
        CHECK.linesOf("a<s> b</s>", "s{s:2}", 5, "0,1 - 3,0 lines 1 height 2");
        CHECK.linesOf("a<s> b</s>", "s{s:2}", 4, "0,0 - 0,1 lines 2 height 3");
        CHECK.linesOf("a<s> </s>b", "s{s:3}", 5, "0,0 - 4,0 lines 1 height 1");
        CHECK.linesOf("a<s> </s>b", "s{s:3}", 4, "0,0 - 0,1 lines 2 height 2");
        CHECK.linesOf("a<s> </s>", "s{s:9}", 1, "0,0 - lines 1 height 1");
    }

    private static void atTheBeginning() {
        CHECK.of("or at the beginning of the line, if that has no word");
        CHECK.linesOf("abc", "", 3, "0,0 1,0 2,0 lines 1 height 1");
        CHECK.linesOf("abc", "", 2, "0,0 1,0 2,0 lines 1 height 1");
        CHECK.linesOf("<d>ab", "d{w:0}", 9, "0,0 1,0 lines 1 height 1");
        CHECK.linesOf("<d>a b", "d{w:0}", 9, "0,0 - 0,1 lines 2 height 2");
        CHECK.linesOf("abc d", "", 2, "0,0 1,0 2,0 - 0,1 lines 2 height 2");
        CHECK.linesOf("a bcd", "", 2, "0,0 - 0,1 1,1 2,1 lines 2 height 2");
        CHECK.linesOf("<k>abc", "", 2, "0,1 1,1 2,1 lines 2 height 2");
        CHECK.linesOf("  abc", "", 2, "- - 0,0 1,0 2,0 lines 1 height 1");
        CHECK.linesOf("a<k> bcd", "", 3, "0,0 - 0,1 1,1 2,1 lines 2 height 2");
    }

    private static void theFirstBlank() {
        CHECK.of("with the size (that of its own text's parent) of the first blank between them as a gap");
        CHECK.linesOf("a b", "", 9, "0,0 - 2,0 lines 1 height 1");
        CHECK.linesOf("a     b", "", 9, "0,0 - - - - - 2,0 lines 1 height 1");
        CHECK.linesOf("a<s> </s> b", "s{s:3}", 9, "0,0 - - 4,0 lines 1 height 1");
        CHECK.linesOf("a <s> </s>b", "s{s:3}", 9, "0,0 - - 2,0 lines 1 height 1");
        CHECK.linesOf("<s>a</s> b", "s{s:3}", 9, "0,0 - 4,2 lines 1 height 3");
        CHECK.linesOf("<s> </s>a b", "s{s:3}", 9, "- 0,0 - 2,0 lines 1 height 1");
        CHECK.linesOf("a<s> </s>b c", "s{s:3}", 9, "0,0 - 4,0 - 6,0 lines 1 height 1");
    }

    private static void breaksEndLines() {
        CHECK.of("A k ends the line (a second one a line without a word");
        CHECK.linesOf("ab", "", 9, "0,0 1,0 lines 1 height 1");
        CHECK.linesOf("a<k>b", "", 9, "0,0 0,1 lines 2 height 2");
        CHECK.linesOf("a<k><k>b", "", 9, "0,0 0,2 lines 3 height 3");
        CHECK.linesOf("a<k><k><k>b", "", 9, "0,0 0,3 lines 4 height 4");
        CHECK.linesOf("a <k> <k> b", "", 9, "0,0 - - - 0,2 lines 3 height 3");
        CHECK.linesOf("<k>a", "", 9, "0,1 lines 2 height 2");
        CHECK.linesOf("a b<k>c", "", 1, "0,0 - 0,1 0,2 lines 3 height 3");
    }

    private static void breaksAtTheEnd() {
        CHECK.of("behind one at the run's end there is none more");
        CHECK.linesOf("a", "", 9, "0,0 lines 1 height 1");
        CHECK.linesOf("a<k>", "", 9, "0,0 lines 1 height 1");
        CHECK.linesOf("a<k>  ", "", 9, "0,0 - - lines 1 height 1");
        CHECK.linesOf("a<k><k>", "", 9, "0,0 lines 2 height 2");
        CHECK.linesOf("<k>", "", 9, "lines 1 height 1");
        CHECK.linesOf("<k><k>", "", 9, "lines 2 height 2");
        CHECK.linesOf("a<k><d>b", "", 9, "0,0 0,1 lines 2 height 2");
        CHECK.linesOf("<d>a<k></d>b", "", 9, "0,0 0,1 lines 2 height 2");
        CHECK.linesOf("<a>a<k></a>b", "", 9, "0,0 0,1 lines 2 height 2");
    }

    private static void heightOfBreaks() {
        CHECK.of("a line without a word that k ends (so that of the second of two k) is as high as k's "
                + "size");
        CHECK.linesOf("<kA>", "A{s:5}", 9, "lines 1 height 5");
        CHECK.linesOf("<kA>a", "A{s:5}", 9, "0,5 lines 2 height 6");
        CHECK.linesOf(" <kA>a", "A{s:5}", 9, "- 0,5 lines 2 height 6");
        CHECK.linesOf("a<kA>b", "A{s:5}", 9, "0,0 0,1 lines 2 height 2");
        CHECK.linesOf("a<k><kA>b", "A{s:5}", 9, "0,0 0,6 lines 3 height 7");
        CHECK.linesOf("a<kA><k>b", "A{s:5}", 9, "0,0 0,2 lines 3 height 3");
        CHECK.linesOf("a<k> <kA> b", "A{s:5}", 9, "0,0 - - 0,6 lines 3 height 7");
        CHECK.linesOf("<s><k>", "s{s:3}", 9, "lines 1 height 3");
        CHECK.linesOf("<s>a<kA>", "s{s:3}A{s:9}", 9, "0,0 lines 1 height 3");
    }

    private static void noOtherEmptyLines() {
        CHECK.of("Other lines without a word do not exist.");
        CHECK.linesOf("", "", 9, "lines 0 height 0");
        CHECK.linesOf(" ", "", 9, "- lines 0 height 0");
        CHECK.linesOf("     ", "", 1, "- - - - - lines 0 height 0");
        CHECK.linesOf("<b></b>", "", 9, "lines 0 height 0");
        CHECK.linesOf("<d> </d> <d> </d>", "", 9, "- - - lines 0 height 0");
        CHECK.linesOf(" <d>x</d> ", "", 9, "- 0,0 - lines 1 height 1");
        CHECK.linesOf("   x   ", "", 1, "- - - 0,0 - - - lines 1 height 1");
        CHECK.linesOf("ab", "", 1, "0,0 1,0 lines 1 height 1");
    }

    private static void heightOfLines() {
        CHECK.of("A line with words is as high as the greatest character of these");
        CHECK.linesOf("a<s>b</s>", "s{s:3}", 9, "0,2 1,0 lines 1 height 3");
        CHECK.linesOf("<s>a</s>b", "s{s:3}", 9, "0,0 3,2 lines 1 height 3");
        CHECK.linesOf("a <s>b</s> c", "s{s:3}", 9, "0,2 - 2,0 - 6,2 lines 1 height 3");
        CHECK.linesOf("a<s> </s>b", "s{s:3}", 9, "0,0 - 4,0 lines 1 height 1");
        CHECK.linesOf("<s>a</s> b", "s{s:3}", 3, "0,0 - 0,3 lines 2 height 4");
        CHECK.linesOf("b <s>a</s>", "s{s:3}", 3, "0,0 - 0,1 lines 2 height 4");
    }

    private static void lowerEdge() {
        CHECK.of("all their characters stand on its lower edge");
        CHECK.linesOf("a<s>b<i>c</i></s>", "s{s:3}i{s:2}", 9, "0,2 1,0 4,1 lines 1 height 3");
        CHECK.linesOf("<k>a<s>b</s>", "s{s:3}", 9, "0,3 1,1 lines 2 height 4");
        CHECK.linesOf("a<s>b</s><k>c", "s{s:3}", 9, "0,2 1,0 0,3 lines 2 height 4");
    }

    private static void blanksHaveNoPlace() {
        CHECK.of("Blanks have no place.");
        CHECK.linesOf(" a b ", "", 9, "- 0,0 - 2,0 - lines 1 height 1");
        CHECK.linesOf("a!", "", 9, "0,0 1,0 lines 1 height 1");
    }
}
