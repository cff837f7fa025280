/** START TAG and END TAG: a test for each sentence that names a boundary case. */
public final class TagEdgesTest {
    private static final Check CHECK = new Check();

    public static void main(String[] args) {
        blocksCloseParagraphs();
        itemsCloseItems();
        rowsWithoutTable();
        cellsWithoutTable();
        rows();
        cells();
        impliedRows();
        renewingAtTags();
        voids();
        whichEnterTheList();
        fourInTheList();
        whoLeftTheList();
        endOfParagraph();
        endWithoutParagraph();
        endOfBlocks();
        endOfItems();
        endOfTables();
        endOfRows();
        endOfCells();
        endOfVoids();
        endOfOthers();
        endNotInTheList();
        endNotOpen();
        endUnderTable();
        endWithoutBlock();
        adoption();
        adoptedStaysOpen();
        adoptionLeavesTheList();
        placeOfTheAdopted();
        theNewElement();
        CHECK.end();
    }

    private static void blocksCloseParagraphs() {
        CHECK.of("First, if x is a block name: if p is in reach past c, closing to the topmost p.");
        for (char x = 'a'; x <= 'z'; x++) {
            boolean isVoid = x == 'h' || x == 'k';
            if (x == 'r' || x == 'c') {
                CHECK.treeOf("<p><" + x + ">", "p()", 2);
            } else if ("pdulht".indexOf(x) >= 0) {
                CHECK.treeOf("<p><" + x + ">", "p() " + x + "()", isVoid ? 1 : 2);
                CHECK.treeOf("<p><a><" + x + ">", "p(a()) " + x + "()", isVoid ? 1 : 2);
                CHECK.treeOf("<" + x + ">", x + "()", isVoid ? 1 : 2);
            } else {
                CHECK.treeOf("<p><" + x + ">", "p(" + x + "())", isVoid ? 2 : 3);
            }
        }
        CHECK.treeOf("<d><p><d>", "d(p() d())", 3);
        CHECK.treeOf("<t><c><p><d>", "t(r(c(p() d())))", 5);
    }

    private static void itemsCloseItems() {
        CHECK.of("x = l: if l is in reach past u and c, closing to the topmost l.");
        CHECK.treeOf("<l>", "l()", 2);
        CHECK.treeOf("<l><l>", "l() l()", 2);
        CHECK.treeOf("<l><d><a><l>", "l(d(a())) l()", 2);
        CHECK.treeOf("<l><t><l>", "l(t()) l()", 2);
        CHECK.treeOf("<l><u><l>", "l(u(l()))", 4);
        CHECK.treeOf("<l><u><l><l>", "l(u(l() l()))", 4);
        CHECK.treeOf("<l><t><c><l>", "l(t(r(c(l()))))", 6);
        CHECK.treeOf("<l><t><c><l><l>", "l(t(r(c(l() l()))))", 6);
        CHECK.treeOf("<l><d>", "l(d())", 3);
    }

    private static void rowsWithoutTable() {
        CHECK.of("x = r: without TABLE nothing at all happens");
        CHECK.treeOf("<r>", "", 1);
        CHECK.treeOf("x<rA>y", "'xy'", 1);
        CHECK.treeOf("<p><b><r>x", "p(b('x'))", 3);
        CHECK.treeOf("<p><b></p><r>", "p(b())", 1);
        CHECK.treeOf("<t></t><r>x", "t() 'x'", 1);
        CHECK.treeOf("<l><r><l>", "l() l()", 2);
    }

    private static void cellsWithoutTable() {
        CHECK.of("x = c: without TABLE nothing at all happens");
        CHECK.treeOf("<c>", "", 1);
        CHECK.treeOf("x<cA>y", "'xy'", 1);
        CHECK.treeOf("<p><b><c>x", "p(b('x'))", 3);
        CHECK.treeOf("<p><b></p><c>", "p(b())", 1);
        CHECK.treeOf("<t><c></t><c>x", "t(r(c())) 'x'", 1);
    }

    private static void rows() {
        CHECK.of("otherwise all above TABLE is closed");
        CHECK.treeOf("<t><r>", "t(r())", 3);
        CHECK.treeOf("<t><rA><rB>", "t(rA() rB())", 3);
        CHECK.treeOf("<t><c><d><a><r>", "t(r(c(d(a()))) r())", 3);
        CHECK.treeOf("<t><a><r>", "a() t(r())", 3);
        CHECK.treeOf("<d><t><r>", "d(t(r()))", 4);
        CHECK.treeOf("<t><c><t><r>", "t(r(c(t(r()))))", 6);
        CHECK.treeOf("<t><c><t></t><r>", "t(r(c(t())) r())", 3);
    }

    private static void cells() {
        CHECK.of("if an r is open above TABLE, all above the topmost r is closed");
        CHECK.treeOf("<t><rA><cB>", "t(rA(cB()))", 4);
        CHECK.treeOf("<t><rA><c><d><a><c>", "t(rA(c(d(a())) c()))", 4);
        CHECK.treeOf("<t><rA><a><c>", "a() t(rA(c()))", 4);
        CHECK.treeOf("<t><r><c></c><c>", "t(r(c() c()))", 4);
    }

    private static void impliedRows() {
        CHECK.of("if not, all above TABLE is closed and an r without classes is put behind the last "
                + "child of TABLE and opened");
        CHECK.treeOf("<t><cA>", "t(r(cA()))", 4);
        CHECK.treeOf("<t><a><cA>", "a() t(r(cA()))", 4);
        CHECK.treeOf("<t><rA></r><c>", "t(rA() r(c()))", 4);
        CHECK.treeOf("<t><rA><c><t><cB>", "t(rA(c(t(r(cB())))))", 7);
    }

    private static void renewingAtTags() {
        CHECK.of("x neither a block name nor r nor c: renewing.");
        for (char x = 'a'; x <= 'z'; x++) {
            boolean isVoid = x == 'h' || x == 'k';
            if ("pdulht".indexOf(x) >= 0) {
                CHECK.treeOf("<p><bA></p><" + x + ">", "p(bA()) " + x + "()", isVoid ? 1 : 2);
            } else if (x != 'r' && x != 'c') {
                CHECK.treeOf("<p><bA></p><" + x + ">", "p(bA()) bA(" + x + "())", isVoid ? 2 : 3);
            }
        }
        CHECK.treeOf("<p><b></p><t><r>", "p(b()) t(r())", 3);
        CHECK.treeOf("<p><b></p><t><c>", "p(b()) t(r(c()))", 4);
    }

    private static void voids() {
        CHECK.of("opened if it is not void");
        CHECK.treeOf("<h>x", "h() 'x'", 1);
        CHECK.treeOf("<k>x", "k() 'x'", 1);
        CHECK.treeOf("<a>x", "a('x')", 2);
    }

    private static void whichEnterTheList() {
        CHECK.of("if it is formatting, put behind the others in THE LIST");
        for (char x = 'a'; x <= 'z'; x++) {
            if ("pdulhtrck".indexOf(x) < 0) {
                boolean isFormatting = x == 'b' || x == 'i' || x == 's';
                CHECK.treeOf("<p><" + x + "></p>y",
                        "p(" + x + "()) " + (isFormatting ? x + "('y')" : "'y'"));
            }
        }
        CHECK.treeOf("<p><b><i></p>x", "p(b(i())) b(i('x'))", 3);
        CHECK.treeOf("<p><i><b></p>x", "p(i(b())) i(b('x'))", 3);
    }

    private static void fourInTheList() {
        CHECK.of("if that had 4 before, the first of them leaves it");
        CHECK.treeOf("<p><bA><b><b></p>x", "p(bA(b(b()))) bA(b(b('x')))", 4);
        CHECK.treeOf("<p><bA><b><b><b></p>x", "p(bA(b(b(b())))) bA(b(b(b('x'))))", 5);
        CHECK.treeOf("<p><bA><bB><b><b><b></p>x", "p(bA(bB(b(b(b()))))) bB(b(b(b('x'))))", 5);
        CHECK.treeOf("<p><bA><bB><bC><b><b><b></p>x",
                "p(bA(bB(bC(b(b(b())))))) bC(b(b(b('x'))))", 5);
        CHECK.treeOf("<p><b><i><s><b></b><i></p>x", "p(b(i(s(b() i())))) b(i(s(i('x'))))", 5);
        CHECK.treeOf("<p><b><b><b><b></p><t><c><p><i></p>x",
                "p(b(b(b(b())))) t(r(c(p(i()) i('x'))))", 5);
    }

    private static void whoLeftTheList() {
        CHECK.of("the first of them leaves it");
        String five = "<sA><s><s><s><s></s></s></s></s>";
        CHECK.treeOf(five + "x", "sA(s(s(s(s()))) 'x')", 2);
        CHECK.treeOf(five + "</s>x", "sA(s(s(s(s())))) 'x'", 1);
        CHECK.treeOf(five + "<d></s>x", "sA(s(s(s(s()))) d('x'))", 3);
    }

    private static void endOfParagraph() {
        CHECK.of("p: if it is in reach past c, closing to the topmost p");
        CHECK.treeOf("<p>x</p>y", "p('x') 'y'", 1);
        CHECK.treeOf("<d><p><a></p>x", "d(p(a()) 'x')", 2);
        CHECK.treeOf("<t><c><p></p>x", "t(r(c(p() 'x')))", 4);
        CHECK.treeOf("<t><p></p>x", "p() 'x' t()", 2);
    }

    private static void endWithoutParagraph() {
        CHECK.of("otherwise a new p without classes is put at THE PLACE (and not opened)");
        CHECK.treeOf("</p>", "p()", 1);
        CHECK.treeOf("x</pA>y", "'x' p() 'y'", 1);
        CHECK.treeOf("<pA></p></p>", "pA() p()", 1);
        CHECK.treeOf("<d></p>x", "d(p() 'x')", 2);
        CHECK.treeOf("<t></p>", "p() t()", 2);
        CHECK.treeOf("<t><r></p>x", "p() 'x' t(r())", 3);
        CHECK.treeOf("<t><c></p>", "t(r(c(p())))", 4);
        CHECK.treeOf("<b></p>x", "b(p() 'x')", 2);
        CHECK.treeOf("<p><b></p></p>", "p(b()) p()", 1);
    }

    private static void endOfBlocks() {
        CHECK.of("d, u: if in reach past c, closing to the topmost");
        for (String x : new String[] {"d", "u"}) {
            CHECK.treeOf("</" + x + ">y", "'y'", 1);
            CHECK.treeOf("<" + x + "></" + x + ">y", x + "() 'y'", 1);
            CHECK.treeOf("<" + x + "><p><a></" + x + ">y", x + "(p(a())) 'y'", 1);
            CHECK.treeOf("<" + x + "><" + x + "></" + x + ">y", x + "(" + x + "() 'y')", 2);
            CHECK.treeOf("<" + x + "><t><r></" + x + ">y", x + "(t(r())) 'y'", 1);
            CHECK.treeOf("<" + x + "><t><c></" + x + ">y", x + "(t(r(c('y'))))", 5);
            CHECK.treeOf("<l></" + x + ">y", "l('y')", 2);
        }
    }

    private static void endOfItems() {
        CHECK.of("l: likewise past u and c");
        CHECK.treeOf("</l>x", "'x'", 1);
        CHECK.treeOf("<l></l>x", "l() 'x'", 1);
        CHECK.treeOf("<l><d><t></l>x", "l(d(t())) 'x'", 1);
        CHECK.treeOf("<l><u></l>x", "l(u('x'))", 3);
        CHECK.treeOf("<l><u></u></l>x", "l(u()) 'x'", 1);
        CHECK.treeOf("<l><t><c></l>x", "l(t(r(c('x'))))", 5);
        CHECK.treeOf("<l><u><l></l></l>x", "l(u(l() 'x'))", 3);
    }

    private static void endOfTables() {
        CHECK.of("t: closing to TABLE, if there is one");
        CHECK.treeOf("</t>x", "'x'", 1);
        CHECK.treeOf("<d></t>x", "d('x')", 2);
        CHECK.treeOf("<t></t>x", "t() 'x'", 1);
        CHECK.treeOf("<d><t><c><p><a></t>x", "d(t(r(c(p(a())))) 'x')", 2);
        CHECK.treeOf("<t><c><t></t>x", "t(r(c(t() 'x')))", 4);
        CHECK.treeOf("<t><c><t></t></t>x", "t(r(c(t()))) 'x'", 1);
        CHECK.treeOf("<t></t></t>x", "t() 'x'", 1);
    }

    private static void endOfRows() {
        CHECK.of("r: if an r is open above TABLE, closing to the topmost r");
        CHECK.treeOf("</r>x", "'x'", 1);
        CHECK.treeOf("<t></r>x", "'x' t()", 2);
        CHECK.treeOf("<t><r></r>x", "'x' t(r())", 2);
        CHECK.treeOf("<t><c><d></r>x", "'x' t(r(c(d())))", 2);
        CHECK.treeOf("<t><c><t></r>x", "t(r(c('x' t())))", 5);
        CHECK.treeOf("<t><c><t></t></r>x", "'x' t(r(c(t())))", 2);
    }

    private static void endOfCells() {
        CHECK.of("c: if in reach past t, closing to the topmost c");
        CHECK.treeOf("</c>x", "'x'", 1);
        CHECK.treeOf("<t></c>x", "'x' t()", 2);
        CHECK.treeOf("<t><r></c>x", "'x' t(r())", 3);
        CHECK.treeOf("<t><c></c>x", "'x' t(r(c()))", 3);
        CHECK.treeOf("<t><c><p><a></c>x", "'x' t(r(c(p(a()))))", 3);
        CHECK.treeOf("<t><c><t></c>x", "t(r(c('x' t())))", 5);
        CHECK.treeOf("<t><c><t><r></c>x", "t(r(c('x' t(r()))))", 6);
        CHECK.treeOf("<t><c><t></t></c>x", "'x' t(r(c(t())))", 3);
    }

    private static void endOfVoids() {
        CHECK.of("h, k: nothing.");
        CHECK.treeOf("<a></h></k>x", "a('x')", 2);
        CHECK.treeOf("<h></h><k></k>x", "h() k() 'x'", 1);
        CHECK.treeOf("<p></h>x", "p('x')", 2);
    }

    private static void endOfOthers() {
        CHECK.of("Other names: closing to the topmost open x, if there is one and no open element above "
                + "it has a block name or is r or c.");
        for (char x = 'a'; x <= 'z'; x++) {
            if ("pdulhtrckbis".indexOf(x) < 0) {
                CHECK.treeOf("</" + x + ">+", "'+'", 1);
                CHECK.treeOf("<" + x + "></" + x + ">+", x + "() '+'", 1);
                CHECK.treeOf("<" + x + "><b><" + x + "><i></" + x + ">",
                        x + "(b(" + x + "(i())))", 3);
                for (String block : new String[] {"p", "d", "u", "l"}) {
                    CHECK.treeOf("<" + x + "><" + block + "></" + x + ">+",
                            x + "(" + block + "('+'))", 3);
                }
                CHECK.treeOf("<" + x + "><h></" + x + ">+", x + "(h()) '+'", 1);
                CHECK.treeOf("<" + x + "><t></" + x + ">", x + "(t())", 3);
                CHECK.treeOf("<" + x + "><t><c></" + x + ">+", x + "(t(r(c('+'))))", 5);
                CHECK.treeOf("<t><" + x + "></" + x + ">+", x + "() '+' t()", 2);
            }
        }
    }

    private static void endNotInTheList() {
        CHECK.of("But for b, i, s, when THE LIST has such an element");
        CHECK.treeOf("</b>x", "'x'", 1);
        CHECK.treeOf("<i></b>x", "i('x')", 2);
        CHECK.treeOf("<b><t><c></b>x", "b(t(r(c('x'))))", 5);
        String left = "<b><i><i><i><i>";
        CHECK.treeOf(left + "</b>x", "b(i(i(i(i())))) i(i(i(i('x'))))", 5);
        CHECK.treeOf(left + "<d></b>x", "b(i(i(i(i(d('x'))))))", 7);
    }

    private static void endNotOpen() {
        CHECK.of("E being the last one: if E is not open, it leaves THE LIST");
        CHECK.treeOf("<p><b></p></b>x", "p(b()) 'x'", 1);
        CHECK.treeOf("<p><bA><bB></p></b>x", "p(bA(bB())) bA('x')", 2);
        CHECK.treeOf("<p><bA><bB></p></b></b>x", "p(bA(bB())) 'x'", 1);
        CHECK.treeOf("<p><b><i></p></b>x", "p(b(i())) i('x')", 2);
        CHECK.treeOf("<bA><p><bB></p></b>x", "bA(p(bB()) 'x')", 2);
        CHECK.treeOf("<bA><p><bB></p></b></b>x", "bA(p(bB())) 'x'", 1);
    }

    private static void endUnderTable() {
        CHECK.of("Otherwise, if a t is above E in the stack, nothing happens.");
        CHECK.treeOf("<b><t></b>x", "b('x' t())", 3);
        CHECK.treeOf("<b><t><r></b>x", "b('x' t(r()))", 4);
        CHECK.treeOf("<b><d><t></b>x", "b(d('x' t()))", 4);
        CHECK.treeOf("<b><t><d></b>x", "b(d('x') t())", 4);
        CHECK.treeOf("<b><t></b></t>x", "b(t() 'x')", 2);
        CHECK.treeOf("<b><t></b></t></b>x", "b(t()) 'x'", 1);
        CHECK.treeOf("<t><b></b>x", "b() 'x' t()", 2);
    }

    private static void endWithoutBlock() {
        CHECK.of("Otherwise, if no open element above E has a block name, closing to E, and E leaves "
                + "THE LIST.");
        CHECK.treeOf("<b></b>x", "b() 'x'", 1);
        CHECK.treeOf("<b><a></b>x", "b(a()) 'x'", 1);
        CHECK.treeOf("<b><i><a></b>x", "b(i(a())) i('x')", 2);
        CHECK.treeOf("<bA><bB></b>x", "bA(bB() 'x')", 2);
        CHECK.treeOf("<b><h></b>x", "b(h()) 'x'", 1);
        CHECK.treeOf("<b><d></d></b>x", "b(d()) 'x'", 1);
        CHECK.treeOf("<d><b></b>x", "d(b() 'x')", 2);
    }

    private static void adoption() {
        CHECK.of("Otherwise ADOPTION: B is the lowest open element above E with a block name.");
        for (String block : new String[] {"p", "d", "u", "l"}) {
            CHECK.treeOf("<b><" + block + ">x</b>y", "b() " + block + "(b('x') 'y')", 2);
        }
        CHECK.treeOf("<b><d><u>x</b>y", "b() d(b(u('xy')))", 3);
        CHECK.treeOf("<b><a><d><u>x</b>y", "b(a()) d(b(u('xy')))", 3);
        CHECK.treeOf("<d><b><u>x</b>y", "d(b() u(b('x') 'y'))", 3);
    }

    private static void adoptedStaysOpen() {
        CHECK.of("E and all between E and B leave the stack (B and those above stay open)");
        CHECK.treeOf("<b><d></b>", "b() d(b())", 2);
        CHECK.treeOf("<b><a><d></b>", "b(a()) d(b())", 2);
        CHECK.treeOf("<x><b><a><z><d><y></b>+", "x(b(a(z())) d(b(y('+'))))", 4);
        CHECK.treeOf("<b><a><d></b></a>x", "b(a()) d(b() 'x')", 2);
        CHECK.treeOf("<b><d><a></b></a>x", "b() d(b(a()) 'x')", 2);
    }

    private static void adoptionLeavesTheList() {
        CHECK.of("and E leaves THE LIST (others stay there, to be renewed later)");
        CHECK.treeOf("<b><d></b></d>x", "b() d(b()) 'x'", 1);
        CHECK.treeOf("<b><i><d></b></d>x", "b(i()) d(b()) i('x')", 2);
        CHECK.treeOf("<i><b><d></b></d>x", "i(b() d(b()) 'x')", 2);
        CHECK.treeOf("<b><d><i></b></d>x", "b() d(b(i())) i('x')", 2);
        CHECK.treeOf("<bA><bB><d></b></d>x", "bA(bB() d(bB()) 'x')", 2);
    }

    private static void placeOfTheAdopted() {
        CHECK.of("B is taken from its parent and put at what is THE PLACE when E, B and all above E are "
                + "left out of the stack.");
        CHECK.treeOf("<b>1<d>2</b>", "b('1') d(b('2'))", 2);
        CHECK.treeOf("<x>0<b>1<d>2</b>", "x('0' b('1') d(b('2')))", 3);
        CHECK.treeOf("<t><b>1<d>2</b>", "b('1') d(b('2')) t()", 3);
        CHECK.treeOf("<t><r><b>1<d>2</b>", "b('1') d(b('2')) t(r())", 4);
        CHECK.treeOf("<x><t><b>1<d>2</b>", "x(b('1') d(b('2')) t())", 4);
        CHECK.treeOf("<t><c><b>1<d>2</b>", "t(r(c(b('1') d(b('2')))))", 5);
        CHECK.treeOf("<t><a><b>1<d>2</b>", "a(b('1') d(b('2'))) t()", 4);
        CHECK.treeOf("<b><a>1<d>2</d>3<d>4</b>", "b(a('1' d('2') '3')) d(b('4'))", 2);
    }

    private static void theNewElement() {
        CHECK.of("Then all children of B become the children of a new element with E's name and classes, "
                + "in their order, and this becomes the only child of B (it is not open and in no list).");
        CHECK.treeOf("<bA><d></b>", "bA() d(bA())", 2);
        CHECK.treeOf("<iBC><d>1<k>2<a>3</a></i>", "iBC() d(iBC('1' k() '2' a('3')))", 2);
        CHECK.treeOf("<b><d>1</b>2", "b() d(b('1') '2')", 2);
        CHECK.treeOf("<b><d>1</b></b>2", "b() d(b('1') '2')", 2);
        CHECK.treeOf("<b><d>1</b></d>2", "b() d(b('1')) '2'", 1);
    }
}
