/** STYLE SHEET: a test for each sentence that names a boundary case. */
public final class SheetEdgesTest {
    private static final Check CHECK = new Check();

    public static void main(String[] args) {
        characters();
        length();
        theEndOfTheSheet();
        bracesOfSelectors();
        bracesOfBodies();
        countedAtItsEnd();
        first12();
        only12GiveValues();
        oneToFourParts();
        joints();
        blanksAtTheEnds();
        lettersOfParts();
        emptyParts();
        neverRoot();
        fittingNames();
        fittingClasses();
        fittingAncestors();
        fittingParents();
        cutAtSemicolons();
        blanksInBodies();
        important();
        notRight();
        digits();
        sizes();
        displays();
        lengths();
        importantAlone();
        mostCapitals();
        mostSmalls();
        standsLast();
        inherited();
        withoutAny();
        displaysOfNames();
        displaysOfTables();
        CHECK.end();
    }

    private static boolean isIn(char c, String all) {
        return all.indexOf(c) >= 0;
    }

    private static boolean isSmall(char c) {
        return c >= 'a' && c <= 'z';
    }

    private static boolean isCapital(char c) {
        return c >= 'A' && c <= 'Z';
    }

    private static void characters() {
        CHECK.of("Its characters are 32 .. 126");
        for (int c = 0; c < 300; c++) {
            boolean isRight = c >= 32 && c <= 126;
            CHECK.same("css of " + c, new PlainPage().css((char) c) ? 1 : 0, isRight ? 1 : 0);
        }
        CHECK.holds("css of 65535", !new PlainPage().css((char) 65535));
        CHECK.holds("css of 256 + 'a'", !new PlainPage().css((char) (256 + 'a')));
    }

    private static void length() {
        CHECK.of("at most 120");
        PlainPage page = new PlainPage();
        CHECK.same("118 taken", Check.css(page, Check.repeat(" ", 118)), 118);
        CHECK.holds("the 119th is taken", page.css('a'));
        CHECK.holds("a refused one is not counted", !page.css((char) 31));
        CHECK.holds("nor this", !page.css((char) 127));
        CHECK.holds("the 120th is taken", page.css('{'));
        CHECK.holds("the 121st is refused", !page.css('}'));
        CHECK.holds("the 122nd is refused", !page.css('}'));
        CHECK.same("rules", page.rules(), 0);
    }

    private static void theEndOfTheSheet() {
        CHECK.of("at most 120");
        CHECK.rulesOf(Check.repeat(" ", 116) + "a{}", 1);
        CHECK.rulesOf(Check.repeat(" ", 117) + "a{}", 1);
        CHECK.rulesOf(Check.repeat(" ", 118) + "a{}", 0);
        CHECK.rulesOf("a" + Check.repeat(" ", 117) + "{}", 1);
        CHECK.rulesOf("a" + Check.repeat(" ", 118) + "{}", 0);
        String longBody = "z{" + Check.repeat(";", 113);
        CHECK.valueOf("<z>", longBody + "m:3;}", 'm', 3);
        CHECK.valueOf("<z>", longBody + "m:34}", 'm', 34);
        CHECK.valueOf("<z>", longBody + ";m:34}", 'm', 0);
        CHECK.valueOf("<zA>", Check.repeat("A", 114) + "{m:34}", 'm', 34);
        CHECK.valueOf("<zA>", Check.repeat("A", 115) + "{m:34}", 'm', 0);
    }

    private static void bracesOfSelectors() {
        CHECK.of("a SELECTOR up to the next '{' (a '}' ahead of it is part of it) .. (a '}' in a "
                + "selector makes it wrong");
        for (String wrong : new String[] {"}z", "z}", "z}z", "} z", "}", "z }z", "z>}"}) {
            CHECK.rulesOf(wrong + "{m:5}", 0);
            CHECK.valueOf("<z>", wrong + "{m:5}", 'm', 0);
            CHECK.rulesOf(wrong + "{m:5}z{m:6}", 1);
            CHECK.valueOf("<z>", wrong + "{m:5}z{m:6}", 'm', 6);
        }
        CHECK.rulesOf("z{m:1}}z{m:2}z{m:3}", 2);
        CHECK.valueOf("<z>", "z{m:1}}z{m:2}", 'm', 1);
    }

    private static void bracesOfBodies() {
        CHECK.of("a BODY up to the next '}' (a '{' is part of it) .. a '{' in a body is of a "
                + "declaration)");
        CHECK.rulesOf("z{{}", 1);
        CHECK.rulesOf("z{{}}", 1);
        CHECK.rulesOf("z{a{m:1}", 1);
        CHECK.valueOf("<z>", "z{{m:1}", 'm', 0);
        CHECK.valueOf("<z>", "z{m:1{}", 'm', 0);
        CHECK.valueOf("<z>", "z{m{:1}", 'm', 0);
        CHECK.valueOf("<z>", "z{m:1;{}", 'm', 1);
        CHECK.valueOf("<z>", "z{{;m:1}", 'm', 1);
        CHECK.valueOf("<z>", "z{m:1;z{m:2}", 'm', 1);
        CHECK.valueOf("<z>", "z{m:1}z{m:2}", 'm', 2);
    }

    private static void countedAtItsEnd() {
        CHECK.of("it counts when its '}' is typed");
        PlainPage page = Check.page("<z>", "");
        for (char c : "z{m:1".toCharArray()) {
            page.css(c);
            CHECK.same("rules behind " + c, page.rules(), 0);
            CHECK.same("value behind " + c, page.value(1, 'm'), 0);
        }
        page.css('}');
        CHECK.same("rules behind the '}'", page.rules(), 1);
        CHECK.same("value behind the '}'", page.value(1, 'm'), 1);
    }

    private static void first12() {
        CHECK.of("the first 12 rules with a right selector count");
        for (int count = 0; count <= 14; count++) {
            CHECK.rulesOf(Check.repeat("a{}", count), Math.min(12, count));
            CHECK.rulesOf(Check.repeat("a{}1{}", count), Math.min(12, count));
            CHECK.rulesOf(Check.repeat("1{}", 20) + Check.repeat("a{}", count), Math.min(12, count));
        }
        CHECK.rulesOf("", 0);
        CHECK.rulesOf(Check.repeat("a{}", 40), 12);
        CHECK.rulesOf("z{x:1}z{}", 2);
    }

    private static void only12GiveValues() {
        CHECK.of("the first 12 rules with a right selector count");
        CHECK.valueOf("<z>", Check.repeat("a{}", 10) + "z{m:1}", 'm', 1);
        CHECK.valueOf("<z>", Check.repeat("a{}", 11) + "z{m:1}", 'm', 1);
        CHECK.valueOf("<z>", Check.repeat("a{}", 12) + "z{m:1}", 'm', 0);
        CHECK.valueOf("<z>", Check.repeat("a{}", 11) + "z{m:1}z{m:2!}", 'm', 1);
        CHECK.valueOf("<z>", Check.repeat("1{}", 12) + "z{m:1}", 'm', 1);
        CHECK.valueOf("<z>", "z{m:1}" + Check.repeat("a{}", 12), 'm', 1);
    }

    private static void oneToFourParts() {
        CHECK.of("A selector is right when it is 1 to 4 PARTS");
        for (String joint : new String[] {" ", ">"}) {
            String selector = "*";
            String html = "<z>";
            CHECK.rulesOf("{m:1}", 0);
            for (int parts = 1; parts <= 6; parts++) {
                CHECK.rulesOf(selector + "{m:1}", parts <= 4 ? 1 : 0);
                CHECK.fit(html, selector, parts <= 4);
                selector = selector + joint + "*";
                html = html + "<z>";
            }
        }
        CHECK.rulesOf("a b>c d{}", 1);
        CHECK.rulesOf("a b>c d>{}", 0);
        CHECK.rulesOf("a b>c d e{}", 0);
    }

    private static void joints() {
        CHECK.of("joined by one or more blanks (IN) or by a '>' with any blanks around it");
        for (String right : new String[] {"a b", "a  b", "a     b", "a>b", "a >b", "a> b", "a > b",
            "a   >   b", "A B", "A>B", "* *", "*>*", "aA bB", "a B", "A b"}) {
            CHECK.rulesOf(right + "{}", 1);
        }
        for (String wrong : new String[] {"ab", "Ab", "*a", "a*", "A*", "**", "a>>b", "a> >b", "a,b",
            "a+b", "a.b", "a;b", "a:b", "a!b", "a-b", "a<b"}) {
            CHECK.rulesOf(wrong + "{}", 0);
        }
    }

    private static void blanksAtTheEnds() {
        CHECK.of("with any blanks at both ends");
        CHECK.rulesOf("a{}", 1);
        CHECK.rulesOf(" a{}", 1);
        CHECK.rulesOf("a {}", 1);
        CHECK.rulesOf("    a    {}", 1);
        CHECK.rulesOf("  a b c d  {}", 1);
        CHECK.rulesOf(" a>b {}", 1);
        CHECK.rulesOf(">a{}", 0);
        CHECK.rulesOf(" > a{}", 0);
        CHECK.rulesOf("a>{}", 0);
        CHECK.rulesOf("a > {}", 0);
        CHECK.rulesOf("a b c d>{}", 0);
    }

    private static void lettersOfParts() {
        CHECK.of("A part is a small letter, a '*' or neither, then any capital letters");
        for (char c = 33; c <= 126; c++) {
            if (c != '{') {
                boolean alone = isSmall(c) || isCapital(c) || c == '*';
                CHECK.rulesOf(c + "{}", alone ? 1 : 0);
                for (String first : new String[] {"a", "z", "*", "A", "Z", "aA", "*A", "b A"}) {
                    CHECK.rulesOf(first + c + "{}", isCapital(c) ? 1 : 0);
                }
            }
        }
        CHECK.rulesOf("zABCDEFGHIJKLMNOPQRSTUVWXYZ{}", 1);
        CHECK.rulesOf("AAAA{}", 1);
    }

    private static void emptyParts() {
        CHECK.of("and not empty");
        for (String empty : new String[] {"", " ", "     ", ">", " > ", "a>", ">a", "a>>b"}) {
            CHECK.rulesOf(empty + "{}", 0);
        }
        CHECK.rulesOf("A{}", 1);
        CHECK.rulesOf("*{}", 1);
    }

    private static void neverRoot() {
        CHECK.of("It FITS an element (never ROOT)");
        CHECK.fit("<z>", "*", true);
        CHECK.fit("<z>", "* *", false);
        CHECK.fit("<z>", "*>*", false);
        CHECK.fit("<a><z>", "* *", true);
        CHECK.fit("<a><z>", "*>*", true);
        CHECK.fit("<a><z>", "*>*>*", false);
        CHECK.fit("<a><z>", "* * *", false);
        PlainPage page = Check.page("x", "*{s:3;c:4}");
        CHECK.same("the height of a character in ROOT", page.layout(9), 1);
        CHECK.same("its colour", page.pixel(0, 0), 'x' & 1);
    }

    private static void fittingNames() {
        CHECK.of("that has that name, if there is a letter");
        for (char name = 'a'; name <= 'z'; name++) {
            if (name != 'r' && name != 'c') {
                CHECK.fit("<" + name + ">", String.valueOf(name), true);
                CHECK.fit("<" + name + ">", name == 'z' ? "y" : String.valueOf((char) (name + 1)), false);
                CHECK.fit("<" + name + ">", "*", true);
            }
        }
        CHECK.fit("<t><r>", "r", true);
        CHECK.fit("<t><r>", "t", false);
        CHECK.fit("<t><c>", "c", true);
        CHECK.fit("<t><c>", "r", false);
    }

    private static void fittingClasses() {
        CHECK.of("and all these classes");
        CHECK.fit("<z>", "A", false);
        CHECK.fit("<zA>", "A", true);
        CHECK.fit("<zB>", "A", false);
        CHECK.fit("<zAB>", "A", true);
        CHECK.fit("<zAB>", "AB", true);
        CHECK.fit("<zAB>", "BA", true);
        CHECK.fit("<zAB>", "ABC", false);
        CHECK.fit("<zA>", "AB", false);
        CHECK.fit("<zA>", "AA", true);
        CHECK.fit("<zAZ>", "zZ", true);
        CHECK.fit("<zA>", "zZ", false);
        CHECK.fit("<zZ>", "yZ", false);
        CHECK.fit("<zZ>", "*Z", true);
        CHECK.fit("<z>", "*Z", false);
    }

    private static void fittingAncestors() {
        CHECK.of("what is before the last joint fits an ancestor of the element (IN)");
        CHECK.fit("<z>", "a z", false);
        CHECK.fit("<a><z>", "a z", true);
        CHECK.fit("<a><b><i><z>", "a z", true);
        CHECK.fit("<z>", "z z", false);
        CHECK.fit("<a></a><z>", "a z", false);
        CHECK.fit("<a><z>", "z a", false);
        CHECK.fit("<aA><a><z>", "A z", true);
        CHECK.fit("<a><b><a><z>", "a b z", true);
        CHECK.fit("<b><a><z>", "a b z", false);
        CHECK.fit("<x><a><y><a><z>", "x>a z", true);
        CHECK.fit("<a><b><i><z>", "a b i z", true);
        CHECK.fit("<a><i><b><z>", "a b i z", false);
    }

    private static void fittingParents() {
        CHECK.of("or its parent (DIRECTLY IN)");
        CHECK.fit("<a><z>", "a>z", true);
        CHECK.fit("<a><b><z>", "a>z", false);
        CHECK.fit("<a><b><z>", "b>z", true);
        CHECK.fit("<a><b><z>", "a>b>z", true);
        CHECK.fit("<a><b><z>", "a>*>z", true);
        CHECK.fit("<a><x><b><z>", "a>b>z", false);
        CHECK.fit("<a><x><b><z>", "a b>z", true);
        CHECK.fit("<a><b><x><z>", "a>b z", true);
        CHECK.fit("<a><b><x><z>", "a b>z", false);
        CHECK.fit("<x><a><b><z>", "x>a>b>z", true);
    }

    private static void cutAtSemicolons() {
        CHECK.of("A body is cut at each ';' into DECLARATIONS");
        CHECK.valueOf("<z>", "z{}", 'm', 0);
        CHECK.valueOf("<z>", "z{;}", 'm', 0);
        CHECK.valueOf("<z>", "z{m:1}", 'm', 1);
        CHECK.valueOf("<z>", "z{m:1;}", 'm', 1);
        CHECK.valueOf("<z>", "z{;m:1}", 'm', 1);
        CHECK.valueOf("<z>", "z{;;m:1;;p:2;;}", 'm', 1);
        CHECK.valueOf("<z>", "z{;;m:1;;p:2;;}", 'p', 2);
        CHECK.valueOf("<z>", "z{m:1p:2}", 'm', 0);
        CHECK.valueOf("<z>", "z{m:1p:2}", 'p', 0);
        CHECK.valueOf("<z>", "z{m:;1}", 'm', 0);
    }

    private static void blanksInBodies() {
        CHECK.of("blanks in it, also within a value, count for nothing");
        CHECK.valueOf("<z>", "z{ m:12}", 'm', 12);
        CHECK.valueOf("<z>", "z{m :12}", 'm', 12);
        CHECK.valueOf("<z>", "z{m: 12}", 'm', 12);
        CHECK.valueOf("<z>", "z{m:1 2}", 'm', 12);
        CHECK.valueOf("<z>", "z{m:1   2}", 'm', 12);
        CHECK.valueOf("<z>", "z{m:12 }", 'm', 12);
        CHECK.valueOf("<z>", "z{m:12 ; p:3}", 'm', 12);
        CHECK.valueOf("<z>", "z{m:1 2 3}", 'm', 0);
        CHECK.valueOf("<z>", "z{m:5 !}z{m:6}", 'm', 5);
        CHECK.valueOf("<z>", "z{m:5! }z{m:6}", 'm', 5);
    }

    private static void important() {
        CHECK.of("and perhaps a '!' behind it (then it is IMPORTANT)");
        CHECK.valueOf("<z>", "z{m:5!}", 'm', 5);
        CHECK.valueOf("<z>", "z{m:5!}z{m:6}", 'm', 5);
        CHECK.valueOf("<z>", "z{d:b!;d:n}", 'd', 'b');
        for (String wrong : new String[] {"m:5!!", "m:!5", "m!:5", "!m:5", "m:!", "m:5!6", "!"}) {
            CHECK.valueOf("<z>", "z{" + wrong + "}", 'm', 0);
        }
    }

    private static void notRight() {
        CHECK.of("Those that are not right count for nothing.");
        for (char c = 33; c <= 126; c++) {
            if (c != ';' && c != '}') {
                PlainPage page = Check.page("<z>", "z{" + c + ":7}");
                for (char property : "cbsmpw".toCharArray()) {
                    int usual = property == 'c' || property == 's' ? 1 : property == 'w' ? -1 : 0;
                    CHECK.same(property + " by " + c + ":7", page.value(1, property),
                            c == property ? 7 : usual);
                }
                CHECK.valueOf("<z>", "z{m" + c + "7}", 'm', c == ':' ? 7 : 0);
            }
        }
        for (String wrong : new String[] {"m", "m:", ":", ":7", "m7", "mm:7", "m::7", "m:7:", "m:7m:7",
            "mp:7", "M:7", "m:+7", "m:-7"}) {
            CHECK.valueOf("<z>", "z{m:4;" + wrong + "}", 'm', 4);
            CHECK.valueOf("<z>", "z{m:4;" + wrong + ";m:5}", 'm', 5);
            CHECK.valueOf("<z>", "z{m:4}z{" + wrong + "}", 'm', 4);
            CHECK.valueOf("<z>", "z{m:4}z{" + wrong + "!}", 'm', 4);
        }
    }

    /** What a property becomes by each character as its value. */
    private static void oneCharacter(char property, String right, int otherwise) {
        for (char c = 33; c <= 126; c++) {
            if (c != ';' && c != '}') {
                int due = !isIn(c, right) ? otherwise : property == 'd' ? c : c - '0';
                CHECK.valueOf("<z>", "z{" + property + ":" + c + "}", property, due);
            }
        }
    }

    private static void digits() {
        CHECK.of("c (colour) and b (ground): a digit 0 .. 9");
        oneCharacter('c', "0123456789", 1);
        oneCharacter('b', "0123456789", 0);
        CHECK.valueOf("<z>", "z{c:}", 'c', 1);
        CHECK.valueOf("<z>", "z{c:10}", 'c', 1);
        CHECK.valueOf("<z>", "z{c:05}", 'c', 1);
        CHECK.valueOf("<z>", "z{b:10}", 'b', 0);
        CHECK.valueOf("<z>", "z{b:05}", 'b', 0);
    }

    private static void sizes() {
        CHECK.of("s (size): 1 .. 9");
        oneCharacter('s', "123456789", 1);
        CHECK.valueOf("<a><z>", "a{s:5}z{s:0}", 's', 5);
        CHECK.valueOf("<a><z>", "a{s:5}z{s:1}", 's', 1);
        CHECK.valueOf("<z>", "z{s:9}", 's', 9);
        CHECK.valueOf("<z>", "z{s:10}", 's', 1);
        CHECK.valueOf("<z>", "z{s:02}", 's', 1);
    }

    private static void displays() {
        CHECK.of("d (display): b, i or n");
        oneCharacter('d', "bin", 'i');
        CHECK.valueOf("<d>", "d{d:i}", 'd', 'i');
        CHECK.valueOf("<d>", "d{d:j}", 'd', 'b');
        CHECK.valueOf("<d>", "d{d:ni}", 'd', 'b');
        CHECK.valueOf("<d>", "d{d:N}", 'd', 'b');
    }

    private static void lengths() {
        CHECK.of("m (margin), p (padding) and w (width): one or two digits");
        for (char property : "mpw".toCharArray()) {
            int usual = property == 'w' ? -1 : 0;
            oneCharacter(property, "0123456789", usual);
            int[][] right = {{0, 0}, {9, 9}, {10, 10}, {99, 99}};
            for (int[] pair : right) {
                CHECK.valueOf("<z>", "z{" + property + ":" + pair[0] + "}", property, pair[1]);
            }
            CHECK.valueOf("<z>", "z{" + property + ":00}", property, 0);
            CHECK.valueOf("<z>", "z{" + property + ":07}", property, 7);
            for (String wrong : new String[] {"", "100", "000", "007", "1x", "x1", "-1", "1.", "1/", ":1"}) {
                CHECK.valueOf("<z>", "z{" + property + ":" + wrong + "}", property, usual);
            }
        }
    }

    private static void importantAlone() {
        CHECK.of("(of the important ones alone, if there is one)");
        CHECK.valueOf("<zA>", "zA{m:2}*{m:1!}", 'm', 1);
        CHECK.valueOf("<zA>", "*{m:1!}zA{m:2}", 'm', 1);
        CHECK.valueOf("<zA>", "*{m:1!}zA{m:2!}", 'm', 2);
        CHECK.valueOf("<zA>", "zA{m:2!}*{m:1!}", 'm', 2);
        CHECK.valueOf("<z>", "z{m:1!;m:2}", 'm', 1);
        CHECK.valueOf("<z>", "z{m:2;m:1!}", 'm', 1);
        CHECK.valueOf("<z>", "z{m:1}a{m:2!}", 'm', 1);
        CHECK.valueOf("<z>", "z{p:1!}z{m:2}", 'm', 2);
        CHECK.valueOf("<a><z>", "a{c:5!}z{c:6}", 'c', 6);
        CHECK.valueOf("<z>", "z{m:0!}z{m:6}", 'm', 0);
    }

    private static void mostCapitals() {
        CHECK.of("whose selector has the most capital letters (each as often as it stands there)");
        CHECK.valueOf("<zAB>", "AB{m:1}A{m:2}", 'm', 1);
        CHECK.valueOf("<zAB>", "A{m:2}AB{m:1}", 'm', 1);
        CHECK.valueOf("<zAB>", "AB{m:1}AA{m:2}", 'm', 2);
        CHECK.valueOf("<zAB>", "AAA{m:1}AB{m:2}", 'm', 1);
        CHECK.valueOf("<zAB>", "A{m:1}B{m:2}", 'm', 2);
        CHECK.valueOf("<aA><zB>", "A B{m:1}B{m:2}", 'm', 1);
        CHECK.valueOf("<aA><zB>", "A>B{m:1}B{m:2}", 'm', 1);
        CHECK.valueOf("<a><b><i><zA>", "a b i z{m:1}A{m:2}", 'm', 2);
        CHECK.valueOf("<a><b><i><zA>", "A{m:2}a b i z{m:1}", 'm', 2);
    }

    private static void mostSmalls() {
        CHECK.of("of these the most small letters");
        CHECK.valueOf("<a><z>", "a z{m:1}z{m:2}", 'm', 1);
        CHECK.valueOf("<a><z>", "z{m:2}a z{m:1}", 'm', 1);
        CHECK.valueOf("<a><z>", "a z{m:1}a>z{m:2}", 'm', 2);
        CHECK.valueOf("<a><z>", "z{m:1}*{m:2}", 'm', 1);
        CHECK.valueOf("<a><z>", "z{m:1}* *{m:2}", 'm', 1);
        CHECK.valueOf("<a><z>", "* z{m:1}z{m:2}", 'm', 2);
        CHECK.valueOf("<a><z>", "a *{m:1}z{m:2}", 'm', 2);
        CHECK.valueOf("<zA>", "zA{m:1}A{m:2}", 'm', 1);
        CHECK.valueOf("<zA>", "zA{m:1}*A{m:2}", 'm', 1);
    }

    private static void standsLast() {
        CHECK.of("of these that which stands last");
        CHECK.valueOf("<z>", "z{m:1}z{m:2}", 'm', 2);
        CHECK.valueOf("<z>", "z{m:2}z{m:1}", 'm', 1);
        CHECK.valueOf("<z>", "z{m:1;m:2}", 'm', 2);
        CHECK.valueOf("<z>", "z{m:2;m:1}", 'm', 1);
        CHECK.valueOf("<z>", "z{m:1;m:2}z{m:3;m:4}", 'm', 4);
        CHECK.valueOf("<z>", "z{m:1}z{p:2}", 'm', 1);
        CHECK.valueOf("<z>", "z{m:1!}z{m:2!}", 'm', 2);
        CHECK.valueOf("<z>", "z{m:1!;m:2!}", 'm', 2);
        CHECK.valueOf("<z>", "A{}z{m:1}*{m:2}z{m:3}*{m:4}", 'm', 3);
    }

    private static void inherited() {
        CHECK.of("Without any: c and s are those of the parent (ROOT: 1 and 1)");
        CHECK.valueOf("<z>", "", 'c', 1);
        CHECK.valueOf("<z>", "", 's', 1);
        CHECK.valueOf("<a><z>", "", 'c', 1);
        CHECK.valueOf("<a><z>", "a{c:0}", 'c', 0);
        CHECK.valueOf("<a><z>", "a{c:7}", 'c', 7);
        CHECK.valueOf("<a><z>", "a{s:7}", 's', 7);
        CHECK.valueOf("<a><b><i><z>", "a{s:7;c:6}b{c:5}", 's', 7);
        CHECK.valueOf("<a><b><i><z>", "a{s:7;c:6}b{c:5}", 'c', 5);
        CHECK.valueOf("<a></a><z>", "a{s:7;c:6}", 's', 1);
        CHECK.valueOf("<a></a><z>", "a{s:7;c:6}", 'c', 1);
        CHECK.valueOf("<t><c><z>", "t{c:4}r{s:3}", 'c', 4);
        CHECK.valueOf("<t><c><z>", "t{c:4}r{s:3}", 's', 3);
    }

    private static void withoutAny() {
        CHECK.of("b is 0, m 0, p 0, w NONE");
        String parent = "a{b:5;m:6;p:7;w:8;d:n}";
        for (String css : new String[] {"", parent, parent + "zA{b:1;m:2;p:3;w:4}"}) {
            CHECK.valueOf("<a><z>", css, 'b', 0);
            CHECK.valueOf("<a><z>", css, 'm', 0);
            CHECK.valueOf("<a><z>", css, 'p', 0);
            CHECK.valueOf("<a><z>", css, 'w', -1);
            CHECK.valueOf("<a><z>", css, 'd', 'i');
        }
        CHECK.valueOf("<z>", "z{w:0}", 'w', 0);
    }

    private static void displaysOfNames() {
        CHECK.of("d is b (as its character 98) for block names, r and c, i (105) for others");
        for (char name = 'a'; name <= 'z'; name++) {
            if (name != 'r' && name != 'c') {
                CHECK.valueOf("<" + name + ">", "", 'd', isIn(name, "pdulht") ? 98 : 105);
            }
        }
        CHECK.valueOf("<t><r>", "", 'd', 98);
        CHECK.valueOf("<t><c>", "", 'd', 98);
    }

    private static void displaysOfTables() {
        CHECK.of("For t, r and c a d that would be i is b.");
        for (String html : new String[] {"<t>", "<t><r>", "<t><c>"}) {
            CHECK.valueOf(html, "*{d:i}", 'd', 'b');
            CHECK.valueOf(html, "*{d:i!}", 'd', 'b');
            CHECK.valueOf(html, "*{d:b}", 'd', 'b');
            CHECK.valueOf(html, "*{d:n}", 'd', 'n');
            CHECK.valueOf(html, "*{d:n}*{d:i}", 'd', 'b');
            CHECK.valueOf(html, "*{d:i}*{d:n}", 'd', 'n');
        }
        for (String html : new String[] {"<p>", "<d>", "<u>", "<l>", "<h>", "<k>", "<b>"}) {
            CHECK.valueOf(html, "*{d:i}", 'd', 'i');
        }
    }
}
