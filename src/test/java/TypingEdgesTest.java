/** TYPING: a test for each sentence that names a boundary case. */
public final class TypingEdgesTest {
    private static final Check CHECK = new Check();

    public static void main(String[] args) {
        charactersOfTheText();
        lengthOfTheText();
        whatTheLengthCounts();
        theEndOfTheText();
        namesOfStartTags();
        namesOfEndTags();
        classes();
        classesThatSayNothing();
        theNextGreater();
        comments();
        commentAtTheSlash();
        namedCharacters();
        namedCharactersAreNoMarks();
        effectAtTheLastCharacter();
        noEffectYet();
        examples();
        brokenNamedCharacters();
        CHECK.end();
    }

    private static boolean isSmall(char c) {
        return c >= 'a' && c <= 'z';
    }

    private static void charactersOfTheText() {
        CHECK.of("The text has characters 32 .. 126");
        for (int c = 0; c < 300; c++) {
            takes(c);
        }
        takes(256 + 'a');
        takes(32767);
        takes(65535);
    }

    private static void takes(int c) {
        PlainPage page = new PlainPage();
        boolean isRight = c >= 32 && c <= 126;
        CHECK.same("html of " + c, page.html((char) c) ? 1 : 0, isRight ? 1 : 0);
        boolean isHeld = c == '<' || c == '&';
        CHECK.same("letter behind " + c, page.letter(1, 0), isRight && !isHeld ? c : -1);
    }

    private static void lengthOfTheText() {
        CHECK.of("at most 160");
        PlainPage page = new PlainPage();
        CHECK.same("158 taken", Check.html(page, Check.repeat("a", 158)), 158);
        CHECK.holds("the 159th is taken", page.html('b'));
        CHECK.holds("the 160th is taken", page.html('c'));
        CHECK.holds("the 161st is refused", !page.html('d'));
        CHECK.holds("the 162nd is refused", !page.html('e'));
        CHECK.same("character 158", page.letter(1, 158), 'b');
        CHECK.same("character 159", page.letter(1, 159), 'c');
        CHECK.same("character 160", page.letter(1, 160), -1);
    }

    private static void whatTheLengthCounts() {
        CHECK.of("at most 160");
        PlainPage page = new PlainPage();
        CHECK.same("53 comments", Check.html(page, Check.repeat("<!>", 53)), 159);
        CHECK.holds("a refused one is not counted", !page.html((char) 31));
        CHECK.holds("nor this", !page.html((char) 127));
        CHECK.holds("the 160th is taken", page.html('a'));
        CHECK.holds("the 161st is refused", !page.html('b'));
        page = new PlainPage();
        CHECK.same("53 named characters", Check.html(page, Check.repeat("&l;", 53) + "ab"), 160);
        CHECK.same("their text", Check.letters(page, 1), Check.repeat("<", 53) + "a");
    }

    private static void theEndOfTheText() {
        CHECK.of("at most 160");
        PlainPage page = Check.page(Check.repeat("a", 157) + "<b>", "");
        CHECK.same("a tag that the 160th ends", page.nodes(), 3);
        page = Check.page(Check.repeat("a", 158) + "<b>", "");
        CHECK.same("a tag that the 161st would end", page.nodes(), 2);
        CHECK.same("open then", page.open(), 1);
        page = Check.page(Check.repeat("a", 157) + "&l;", "");
        CHECK.same("'<' that the 160th ends", page.letter(1, 157), '<');
        page = Check.page(Check.repeat("a", 158) + "&l;", "");
        CHECK.same("'<' that the 161st would end", page.letter(1, 158), -1);
        page = Check.page(Check.repeat("a", 158) + "&x", "");
        CHECK.same("'&' that the 160th gives up", page.letter(1, 158), '&');
        page = Check.page(Check.repeat("a", 159) + "&x", "");
        CHECK.same("'&' that the 161st would give up", page.letter(1, 159), -1);
    }

    private static void namesOfStartTags() {
        CHECK.of("A TAG is a '<', a small letter (its NAME)");
        for (char c = 32; c <= 126; c++) {
            String tree = "'<" + c + ">'";
            if (isSmall(c)) {
                tree = c == 'r' || c == 'c' ? "" : c + "()";
            } else if (c == '!' || c == '/') {
                tree = "";
            }
            CHECK.treeOf("<" + c + ">", tree);
        }
    }

    private static void namesOfEndTags() {
        CHECK.of("with a '/' between '<' and the letter it is an END TAG");
        for (char c = 32; c <= 126; c++) {
            String tree = "x('y')";
            if (c == 'x') {
                tree = "x() 'y'";
            } else if (c == 'p') {
                tree = "x(p() 'y')";
            } else if (c == '>') {
                tree = "x('>y')";
            }
            CHECK.treeOf("<x></" + c + ">y", tree);
        }
    }

    private static void classes() {
        CHECK.of("a START TAG, whose CLASSES are the capital letters in it");
        for (char c = 32; c <= 126; c++) {
            if (c != '>') {
                PlainPage page = Check.page("<b" + c + ">", "");
                boolean isCapital = c >= 'A' && c <= 'Z';
                CHECK.same("classes of <b" + c + ">", page.classes(1), isCapital ? 1 << c - 'A' : 0);
            }
        }
        PlainPage page = Check.page("<bABCDEFGHIJKLMNOPQRSTUVWXYZ>", "");
        CHECK.same("all classes", page.classes(1), (1 << 26) - 1);
        page = Check.page("<b A1A,Z=A>", "");
        CHECK.same("the same class again", page.classes(1), 1 + (1 << 25));
    }

    private static void classesThatSayNothing() {
        CHECK.of("all else in a tag, and capital letters in an END TAG, say nothing");
        CHECK.treeOf("<bA></bB><i>x", "bA() i('x')");
        CHECK.treeOf("<!A><b>", "b()");
        CHECK.treeOf("</A><b>", "b()");
        CHECK.treeOf("<dA></dB x='A' />y", "dA() 'y'");
        CHECK.treeOf("<d /x ! & ; </d {}\"'x=y>z", "d('z')");
    }

    private static void theNextGreater() {
        CHECK.of("everything up to the next '>'");
        CHECK.treeOf("<b>>x", "b('>x')");
        CHECK.treeOf("<b <i>x>y", "b('x>y')");
        CHECK.treeOf("<b></b <i>x>y", "b() 'x>y'");
        CHECK.treeOf("<b &g;>x", "b('x')");
        CHECK.treeOf("<b" + Check.repeat(" ", 156) + "A>", "bA()");
        CHECK.treeOf("<b" + Check.repeat(" ", 157) + "A>", "");
    }

    private static void comments() {
        CHECK.of("A '<' that a '!' follows, or that a '/' follows that is not followed by a small "
                + "letter, begins a COMMENT, up to the next '>'");
        for (char c = 32; c <= 126; c++) {
            if (c != '>') {
                CHECK.treeOf("a<!" + c + "x", "'a'");
                CHECK.treeOf("a<!" + c + "x>b", "'ab'");
            }
            if (c != '>' && !isSmall(c)) {
                CHECK.treeOf("a</" + c + "x", "'a'");
                CHECK.treeOf("a</" + c + "x>b", "'ab'");
            }
        }
        CHECK.treeOf("<d><!</d>x", "d('x')");
        CHECK.treeOf("<d></ d>x", "d('x')");
        CHECK.treeOf("<d></!d>x", "d('x')");
        CHECK.treeOf("<!a>>b", "'>b'");
        CHECK.treeOf("<b!>x", "b('x')");
        CHECK.treeOf("<b/>x", "b('x')");
        CHECK.treeOf("< !>", "'< !>'");
        CHECK.treeOf("< />", "'< />'");
    }

    private static void commentAtTheSlash() {
        CHECK.of("(which may be the character after the '/')");
        CHECK.treeOf("a</>b", "'ab'");
        CHECK.treeOf("a</>>b", "'a>b'");
        CHECK.treeOf("a</ >b", "'ab'");
        CHECK.treeOf("a<//>b", "'ab'");
        CHECK.treeOf("a<!>b", "'ab'");
        CHECK.treeOf("<d></>x</d>y", "d('x') 'y'");
    }

    private static void namedCharacters() {
        CHECK.of("\"&l;\" is the character '<', \"&g;\" '>', \"&a;\" '&'. Everything else is itself.");
        for (char c = 32; c <= 126; c++) {
            String text = "&" + c + ";x";
            if (c == 'l') {
                text = "<x";
            } else if (c == 'g') {
                text = ">x";
            } else if (c == 'a') {
                text = "&x";
            }
            CHECK.treeOf("&" + c + ";x", "'" + text + "'");
        }
        CHECK.treeOf("l;g;a;&;", "'l;g;a;&;'");
    }

    private static void namedCharactersAreNoMarks() {
        CHECK.of("\"&l;\" is the character '<', \"&g;\" '>', \"&a;\" '&'.");
        CHECK.treeOf("&l;b>x", "'<b>x'");
        CHECK.treeOf("&l;!c>x", "'<!c>x'");
        CHECK.treeOf("&a;l;x", "'&l;x'");
        CHECK.treeOf("&l;&g;&a;", "'<>&'");
    }

    private static void effectAtTheLastCharacter() {
        CHECK.of("Each tag and each character has its effect on the tree when its last character was "
                + "typed");
        String[] texts = {"<b>", "<bA>", "<h >", "&l;", "&g;", "&a;", "&x", "<1", "&lx", "</p>"};
        for (String text : texts) {
            PlainPage page = new PlainPage();
            int last = text.length() - 1;
            Check.html(page, text.substring(0, last));
            CHECK.same("nodes before the last of " + text, page.nodes(), 1);
            page.html(text.charAt(last));
            CHECK.same("nodes behind the last of " + text, page.nodes(), 2);
        }
        PlainPage page = Check.page("<d></d", "");
        CHECK.same("open before the last of </d>", page.open(), 2);
        page.html('>');
        CHECK.same("open behind the last of </d>", page.open(), 1);
    }

    private static void noEffectYet() {
        CHECK.of("while the text may still become one of these, what was typed of it has none yet");
        String[] held = {"<", "<b", "<bA", "<b <", "<b &", "</", "</p", "</pA", "</p <", "<!", "<!<",
            "</ ", "</1", "</<", "&", "&l", "&g", "&a"};
        for (String part : held) {
            PlainPage page = new PlainPage();
            CHECK.same("taken of " + part, Check.html(page, "a" + part), part.length() + 1);
            CHECK.same("tree of a" + part, Check.tree(page), "'a'");
            CHECK.same("open of a" + part, page.open(), 1);
        }
    }

    private static void examples() {
        CHECK.of("of \"&x\" and \"<&\", once the second character is there, the first is a character "
                + "of the text, and the second is looked at by itself");
        CHECK.treeOf("&", "");
        CHECK.treeOf("&x", "'&x'");
        CHECK.treeOf("<", "");
        CHECK.treeOf("<&", "'<'");
        CHECK.treeOf("<&l", "'<'");
        CHECK.treeOf("<&l;", "'<<'");
        CHECK.treeOf("<&x", "'<&x'");
        CHECK.treeOf("<<", "'<'");
        CHECK.treeOf("<<b>", "'<' b()");
        CHECK.treeOf("<<!>", "'<'");
        CHECK.treeOf("<</>", "'<'");
        CHECK.treeOf("<<<", "'<<'");
        CHECK.treeOf("&&", "'&'");
        CHECK.treeOf("&&l;", "'&<'");
        CHECK.treeOf("&<", "'&'");
        CHECK.treeOf("&<b>", "'&' b()");
        CHECK.treeOf("<>", "'<>'");
        CHECK.treeOf("< ", "'< '");
        CHECK.treeOf("& ", "'& '");
    }

    private static void brokenNamedCharacters() {
        CHECK.of("of \"&l<\", the '&' and the 'l' are");
        for (char letter : "lga".toCharArray()) {
            for (char c = 32; c <= 126; c++) {
                String start = "&" + letter;
                if (c == '<' || c == '&') {
                    CHECK.treeOf(start + c, "'" + start + "'");
                } else if (c != ';') {
                    CHECK.treeOf(start + c, "'" + start + c + "'");
                }
            }
        }
        CHECK.treeOf("&l<b>", "'&l' b()");
        CHECK.treeOf("&l</>x", "'&lx'");
        CHECK.treeOf("&l&g;", "'&l>'");
        CHECK.treeOf("&ll;", "'&ll;'");
    }
}
