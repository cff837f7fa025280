import java.util.Arrays;

/**
 * Shows a page: a text with tags, right or wrong, becomes a tree while it is typed; a style sheet
 * gives every element its values; boxes and lines are laid out for a width; and they are painted
 * into a picture of 64 rows.
 */
public final class PlainPage {
    public static final int NONE = -1;

    private static final int MAX_TEXT = 160;
    private static final int MAX_SHEET = 120;
    private static final int MAX_NODES = 24;
    private static final int MAX_RULES = 12;
    private static final int MAX_PARTS = 4;
    private static final int MAX_FORMATTING = 4;
    private static final int MAX_WIDTH = 64;
    private static final int ROWS = 64;
    private static final int PLACE_ROW = 65536;

    private static final int ROOT = 0;
    private static final int TEXT = 1;

    private static final String BLOCK = "pdulht";
    private static final String VOID = "hk";
    private static final String FORMATTING = "bis";
    private static final String BLOCK_ROW_CELL = "pdulhtrc";

    /** The order in which a node's values and a rule's declarations stand in their rows. */
    private static final String PROPERTIES = "cbsdmpw";
    private static final int COLOUR = 0;
    private static final int GROUND = 1;
    private static final int SIZE = 2;
    private static final int DISPLAY = 3;
    private static final int MARGIN = 4;
    private static final int PADDING = 5;
    private static final int WIDTH = 6;
    private static final int PROPERTY_COUNT = 7;

    private final Tree tree = new Tree();
    private final Typist typist = new Typist();
    private final Sheet sheet = new Sheet();
    private final Layout page = new Layout();
    private int textLength;
    private int sheetLength;
    private boolean dressed;
    private boolean laidOut;

    public PlainPage() {
        startAnew();
    }

    public boolean html(char c) {
        if (!canBeTyped(c) || textLength >= MAX_TEXT || tree.broken) {
            return false;
        }
        textLength++;
        forgetLayout();
        typist.type(c, tree);
        tree.number();
        return !tree.broken;
    }

    public boolean css(char c) {
        if (!canBeTyped(c) || sheetLength >= MAX_SHEET) {
            return false;
        }
        sheetLength++;
        forgetLayout();
        sheet.type(c);
        return true;
    }

    public void clear() {
        startAnew();
    }

    public int nodes() {
        return tree.broken ? NONE : tree.used;
    }

    public int name(int n) {
        Node node = tree.nodeAt(n);
        return node == null ? NONE : node.name;
    }

    public int parent(int n) {
        Node node = tree.nodeAt(n);
        return node == null || node.parent == null ? NONE : node.parent.number;
    }

    public int classes(int n) {
        Node node = tree.nodeAt(n);
        return node == null ? NONE : node.classes;
    }

    public int letter(int n, int k) {
        Letter letter = tree.letterAt(n, k);
        return letter == null ? NONE : letter.code;
    }

    public int open() {
        return tree.broken ? NONE : tree.stack.size;
    }

    public int rules() {
        return sheet.ruleCount;
    }

    public int value(int n, char property) {
        Node node = tree.nodeAt(n);
        int place = PROPERTIES.indexOf(property);
        if (node == null || !node.isElement() || place < 0) {
            return NONE;
        }
        dress();
        return node.values[place];
    }

    public int layout(int v) {
        if (v < 1 || v > MAX_WIDTH || tree.broken) {
            return NONE;
        }
        dress();
        page.lay(tree, v);
        laidOut = true;
        return tree.root.box.height;
    }

    public int box(int n, int what) {
        Node node = tree.nodeAt(n);
        if (!laidOut || node == null || !node.box.isThere) {
            return NONE;
        }
        switch (what) {
            case 0:
                return node.box.left;
            case 1:
                return node.box.top;
            case 2:
                return node.box.width;
            case 3:
                return node.box.height;
            default:
                return NONE;
        }
    }

    public int place(int n, int k) {
        Letter letter = tree.letterAt(n, k);
        if (!laidOut || letter == null || !letter.hasPlace) {
            return NONE;
        }
        return letter.left + PLACE_ROW * letter.top;
    }

    public int lines() {
        return laidOut ? page.run.allLines : NONE;
    }

    public int pixel(int x, int y) {
        if (!laidOut || x < 0 || x >= page.width || y < 0 || y >= ROWS) {
            return NONE;
        }
        return page.paintedAt(tree, x, y);
    }

    private void startAnew() {
        tree.empty();
        typist.empty();
        sheet.empty();
        textLength = 0;
        sheetLength = 0;
        forgetLayout();
    }

    private void forgetLayout() {
        laidOut = false;
        dressed = false;
    }

    /** The values stay right until something is typed, so they are worked out once between. */
    private void dress() {
        if (!dressed) {
            sheet.dress(tree);
            dressed = true;
        }
    }

    private static boolean canBeTyped(char c) {
        return c >= 32 && c <= 126;
    }

    private static boolean isSmall(int c) {
        return c >= 'a' && c <= 'z';
    }

    private static boolean isCapital(int c) {
        return c >= 'A' && c <= 'Z';
    }

    private static boolean isDigit(int c) {
        return c >= '0' && c <= '9';
    }

    private static boolean isOneOf(int name, String names) {
        return names.indexOf((char) name) >= 0;
    }

    /** A character of a text, and where the layout has put it. */
    private static final class Letter {
        int code;
        Letter next;
        boolean hasPlace;
        int size;
        int left;
        int top;
    }

    /** The rectangle of a node in the layout, and how far its content has come. */
    private static final class Box {
        boolean isThere;
        int left;
        int top;
        int width;
        int height;
        int contentLeft;
        int contentTop;
        int contentWidth;
        /** The end of what is above the next item. */
        int end;
        /** The margin that the next item shares: LAST of the document. */
        int last;
    }

    /** A list of formatting elements: ROOT and every open c has one. */
    private static final class FormattingList {
        final Node[] items = new Node[MAX_FORMATTING];
        int size;

        void add(Node node) {
            if (size == MAX_FORMATTING) {
                removeAt(0);
            }
            items[size] = node;
            size++;
        }

        void remove(Node node) {
            for (int i = 0; i < size; i++) {
                if (items[i] == node) {
                    removeAt(i);
                    return;
                }
            }
        }

        private void removeAt(int place) {
            for (int i = place; i + 1 < size; i++) {
                items[i] = items[i + 1];
            }
            size--;
        }

        Node lastNamed(int name) {
            for (int i = size - 1; i >= 0; i--) {
                if (items[i].name == name) {
                    return items[i];
                }
            }
            return null;
        }

        int behindLastOpen() {
            for (int i = size - 1; i >= 0; i--) {
                if (items[i].isOpen) {
                    return i + 1;
                }
            }
            return 0;
        }
    }

    /** ROOT, an element or a text. */
    private static final class Node {
        int name;
        int classes;
        int number;
        boolean isOpen;
        Node parent;
        Node first;
        Node last;
        Node before;
        Node after;
        Letter firstLetter;
        Letter lastLetter;
        final FormattingList list = new FormattingList();
        final int[] values = new int[PROPERTY_COUNT];
        final Box box = new Box();

        void become(int newName, int newClasses) {
            name = newName;
            classes = newClasses;
            isOpen = false;
            parent = null;
            first = null;
            last = null;
            before = null;
            after = null;
            firstLetter = null;
            lastLetter = null;
            list.size = 0;
        }

        boolean isElement() {
            return name != ROOT && name != TEXT;
        }

        /** Takes in a child directly before one that it has, or behind the last if that is null. */
        void insert(Node child, Node mark) {
            child.parent = this;
            child.after = mark;
            child.before = mark == null ? last : mark.before;
            if (child.before == null) {
                first = child;
            } else {
                child.before.after = child;
            }
            if (mark == null) {
                last = child;
            } else {
                mark.before = child;
            }
        }

        void leaveParent() {
            if (parent == null) {
                return;
            }
            if (before == null) {
                parent.first = after;
            } else {
                before.after = after;
            }
            if (after == null) {
                parent.last = before;
            } else {
                after.before = before;
            }
            parent = null;
            before = null;
            after = null;
        }

        void giveChildrenTo(Node other) {
            for (Node child = first; child != null; child = child.after) {
                child.parent = other;
            }
            other.first = first;
            other.last = last;
            first = null;
            last = null;
        }

        void addLetter(Letter letter) {
            if (lastLetter == null) {
                firstLetter = letter;
            } else {
                lastLetter.next = letter;
            }
            lastLetter = letter;
        }

        Node nextInDocument() {
            if (first != null) {
                return first;
            }
            Node node = this;
            while (node != null && node.after == null) {
                node = node.parent;
            }
            return node == null ? null : node.after;
        }
    }

    /** The open elements, ROOT at the bottom. */
    private static final class OpenStack {
        final Node[] items = new Node[MAX_NODES];
        int size;

        void push(Node node) {
            if (size < MAX_NODES) {
                items[size] = node;
                size++;
                node.isOpen = true;
            }
        }

        /** TOP: there always is one, since ROOT is never taken out. */
        Node top() {
            return items[size - 1];
        }

        /** The topmost element of that name, if none above it has one of the other names. */
        Node inReach(int name, String past) {
            for (int i = size - 1; i >= 0; i--) {
                if (items[i].name == name) {
                    return items[i];
                }
                if (isOneOf(items[i].name, past)) {
                    return null;
                }
            }
            return null;
        }

        Node topmost(int name) {
            for (int i = size - 1; i >= 0; i--) {
                if (items[i].name == name) {
                    return items[i];
                }
            }
            return null;
        }

        Node rowOfTable() {
            return inReach('r', "t");
        }

        /** TABLE, if the top of the lowest so many open elements is a t or r; otherwise null. */
        Node tableUnderTop(int height) {
            if (height < 1 || height > size
                    || items[height - 1].name != 't' && items[height - 1].name != 'r') {
                return null;
            }
            for (int i = height - 1; i >= 0; i--) {
                if (items[i].name == 't') {
                    return items[i];
                }
            }
            return null;
        }

        int indexOf(Node node) {
            for (int i = 0; i < size; i++) {
                if (items[i] == node) {
                    return i;
                }
            }
            return size;
        }

        Node lowestAbove(Node node, String names) {
            for (int i = indexOf(node) + 1; i < size; i++) {
                if (isOneOf(items[i].name, names)) {
                    return items[i];
                }
            }
            return null;
        }

        /** Closing to an open element; nothing for null, so that it takes what inReach answers. */
        void closeTo(Node node) {
            takeOut(indexOf(node), size);
        }

        void closeAbove(Node node) {
            takeOut(indexOf(node) + 1, size);
        }

        /** Takes out those from one index on, up to another, but never ROOT. */
        void takeOut(int from, int to) {
            if (from < 1 || from >= to || to > size) {
                return;
            }
            for (int i = from; i < to; i++) {
                items[i].isOpen = false;
            }
            for (int i = to; i < size; i++) {
                items[i - to + from] = items[i];
            }
            size -= to - from;
        }
    }

    /** The tree of the page, and what tags and characters do to it. */
    private static final class Tree {
        final Node[] pool = new Node[MAX_NODES];
        final Node[] order = new Node[MAX_NODES];
        final Letter[] letters = new Letter[MAX_TEXT];
        final OpenStack stack = new OpenStack();
        final Node root;
        int used;
        int usedLetters;
        boolean broken;

        Tree() {
            for (int i = 0; i < MAX_NODES; i++) {
                pool[i] = new Node();
            }
            for (int i = 0; i < MAX_TEXT; i++) {
                letters[i] = new Letter();
            }
            root = pool[0];
        }

        void empty() {
            broken = false;
            usedLetters = 0;
            used = 1;
            root.become(ROOT, 0);
            stack.size = 0;
            stack.push(root);
            number();
        }

        /** Numbers the nodes in document order. */
        void number() {
            Node node = root;
            for (int i = 0; i < used && node != null; i++) {
                node.number = i;
                order[i] = node;
                node = node.nextInDocument();
            }
        }

        Node nodeAt(int n) {
            return broken || n < 0 || n >= used ? null : order[n];
        }

        Letter letterAt(int n, int k) {
            Node node = nodeAt(n);
            if (node == null || k < 0) {
                return null;
            }
            Letter letter = node.firstLetter;
            for (int i = 0; i < k && letter != null; i++) {
                letter = letter.next;
            }
            return letter;
        }

        void startTag(int name, int classes) {
            if (isOneOf(name, "rc")) {
                startRowOrCell(name, classes);
                return;
            }
            if (isOneOf(name, BLOCK)) {
                stack.closeTo(stack.inReach('p', "c"));
            } else {
                renew();
            }
            if (name == 'l') {
                stack.closeTo(stack.inReach('l', "uc"));
            }
            Node node = putNew(name, classes);
            if (node == null) {
                return;
            }
            if (!isOneOf(name, VOID)) {
                stack.push(node);
            }
            if (isOneOf(name, FORMATTING)) {
                theList().add(node);
            }
        }

        private void startRowOrCell(int name, int classes) {
            Node table = stack.topmost('t');
            if (table == null) {
                return;
            }
            Node row = name == 'c' ? stack.rowOfTable() : null;
            stack.closeAbove(row == null ? table : row);
            if (name == 'c' && row == null) {
                openInTop('r', 0);
            }
            openInTop(name, classes);
        }

        void endTag(int name) {
            switch (name) {
                case 'p':
                    endParagraph();
                    break;
                case 'd':
                case 'u':
                    stack.closeTo(stack.inReach(name, "c"));
                    break;
                case 'l':
                    stack.closeTo(stack.inReach('l', "uc"));
                    break;
                case 't':
                    stack.closeTo(stack.topmost('t'));
                    break;
                case 'r':
                    stack.closeTo(stack.rowOfTable());
                    break;
                case 'c':
                    stack.closeTo(stack.inReach('c', "t"));
                    break;
                case 'h':
                case 'k':
                    break;
                default:
                    endOther(name);
                    break;
            }
        }

        private void endParagraph() {
            Node paragraph = stack.inReach('p', "c");
            if (paragraph == null) {
                putNew('p', 0);
            } else {
                stack.closeTo(paragraph);
            }
        }

        private void endOther(int name) {
            FormattingList list = theList();
            Node element = isOneOf(name, FORMATTING) ? list.lastNamed(name) : null;
            if (element == null) {
                stack.closeTo(stack.inReach(name, BLOCK_ROW_CELL));
                return;
            }
            if (!element.isOpen) {
                list.remove(element);
                return;
            }
            if (stack.lowestAbove(element, "t") != null) {
                return;
            }
            list.remove(element);
            Node block = stack.lowestAbove(element, BLOCK);
            if (block == null) {
                stack.closeTo(element);
            } else {
                adopt(element, block);
            }
        }

        private void adopt(Node element, Node block) {
            int height = stack.indexOf(element);
            stack.takeOut(height, stack.indexOf(block));
            block.leaveParent();
            putAtPlace(block, height);
            Node inner = make(element.name, element.classes);
            if (inner != null) {
                block.giveChildrenTo(inner);
                block.insert(inner, null);
            }
        }

        void character(int code) {
            if (code == ' ' && stack.tableUnderTop(stack.size) != null) {
                return;
            }
            renew();
            Node text = nodeBeforePlace();
            if (text == null || text.name != TEXT) {
                text = putNew(TEXT, 0);
            }
            if (text == null || usedLetters >= MAX_TEXT) {
                return;
            }
            Letter letter = letters[usedLetters];
            usedLetters++;
            letter.code = code;
            letter.next = null;
            text.addLetter(letter);
        }

        private FormattingList theList() {
            Node cell = stack.topmost('c');
            return cell == null ? root.list : cell.list;
        }

        private void renew() {
            FormattingList list = theList();
            for (int i = list.behindLastOpen(); i < list.size; i++) {
                Node node = make(list.items[i].name, list.items[i].classes);
                if (node == null) {
                    return;
                }
                putAtPlace(node, stack.size);
                stack.push(node);
                list.items[i] = node;
            }
        }

        private Node nodeBeforePlace() {
            Node table = stack.tableUnderTop(stack.size);
            return table == null ? stack.top().last : table.before;
        }

        /** A new node at THE PLACE; null when it broke the page. */
        private Node putNew(int name, int classes) {
            Node node = make(name, classes);
            if (node != null) {
                putAtPlace(node, stack.size);
            }
            return node;
        }

        /** Puts a node at what is THE PLACE when only the lowest so many elements are open. */
        private void putAtPlace(Node node, int height) {
            Node table = stack.tableUnderTop(height);
            if (table != null && table.parent != null) {
                table.parent.insert(node, table);
            } else if (height > 0) {
                stack.items[height - 1].insert(node, null);
            }
        }

        private void openInTop(int name, int classes) {
            Node node = make(name, classes);
            if (node != null) {
                stack.top().insert(node, null);
                stack.push(node);
            }
        }

        private Node make(int name, int classes) {
            if (used >= MAX_NODES) {
                broken = true;
                return null;
            }
            Node node = pool[used];
            used++;
            node.become(name, classes);
            return node;
        }
    }

    /** Cuts what is typed into tags, comments and characters. */
    private static final class Typist {
        private static final int IN_TEXT = 0;
        private static final int AFTER_AND = 1;
        private static final int AFTER_AND_LETTER = 2;
        private static final int AFTER_LESS = 3;
        private static final int AFTER_LESS_SLASH = 4;
        private static final int IN_START_TAG = 5;
        private static final int IN_END_TAG = 6;
        private static final int IN_COMMENT = 7;

        private int state;
        private int heldLetter;
        private int tagName;
        private int tagClasses;

        void empty() {
            state = IN_TEXT;
        }

        void type(char c, Tree tree) {
            if (!goesOn(c)) {
                giveUpHeld(tree);
            }
            switch (state) {
                case IN_TEXT:
                    typeInText(c, tree);
                    break;
                case AFTER_AND:
                    heldLetter = c;
                    state = AFTER_AND_LETTER;
                    break;
                case AFTER_AND_LETTER:
                    state = IN_TEXT;
                    tree.character(meaningOf(heldLetter));
                    break;
                case AFTER_LESS:
                    typeAfterLess(c);
                    break;
                case AFTER_LESS_SLASH:
                    typeAfterLessSlash(c);
                    break;
                default:
                    typeInTag(c, tree);
                    break;
            }
        }

        /** Whether what is held may still become a tag, a comment or one of the "&l;". */
        private boolean goesOn(char c) {
            switch (state) {
                case AFTER_AND:
                    return isOneOf(c, "lga");
                case AFTER_AND_LETTER:
                    return c == ';';
                case AFTER_LESS:
                    return isSmall(c) || c == '/' || c == '!';
                default:
                    return true;
            }
        }

        private void giveUpHeld(Tree tree) {
            tree.character(state == AFTER_LESS ? '<' : '&');
            if (state == AFTER_AND_LETTER) {
                tree.character(heldLetter);
            }
            state = IN_TEXT;
        }

        private void typeInText(char c, Tree tree) {
            if (c == '<') {
                state = AFTER_LESS;
            } else if (c == '&') {
                state = AFTER_AND;
            } else {
                tree.character(c);
            }
        }

        private void typeAfterLess(char c) {
            if (c == '/') {
                state = AFTER_LESS_SLASH;
            } else if (c == '!') {
                state = IN_COMMENT;
            } else {
                tagName = c;
                tagClasses = 0;
                state = IN_START_TAG;
            }
        }

        private void typeAfterLessSlash(char c) {
            if (isSmall(c)) {
                tagName = c;
                state = IN_END_TAG;
            } else {
                state = c == '>' ? IN_TEXT : IN_COMMENT;
            }
        }

        private void typeInTag(char c, Tree tree) {
            if (c != '>') {
                if (isCapital(c)) {
                    tagClasses |= 1 << (c - 'A');
                }
                return;
            }
            if (state == IN_START_TAG) {
                tree.startTag(tagName, tagClasses);
            } else if (state == IN_END_TAG) {
                tree.endTag(tagName);
            }
            state = IN_TEXT;
        }

        private static int meaningOf(int letter) {
            switch (letter) {
                case 'l':
                    return '<';
                case 'g':
                    return '>';
                default:
                    return '&';
            }
        }
    }

    /** A selector, and for each property the last declarations of the body. */
    private static final class Rule {
        private final int[] partName = new int[MAX_PARTS];
        private final int[] partClasses = new int[MAX_PARTS];
        /** Whether a part stands behind a '>' (DIRECTLY IN), not behind blanks (IN). */
        private final boolean[] partIsDirect = new boolean[MAX_PARTS];
        private final int[] plain = new int[PROPERTY_COUNT];
        private final int[] important = new int[PROPERTY_COUNT];
        private int parts;
        private int capitals;
        private int smalls;
        private int cursor;

        /** Reads a selector; false when it is not right. */
        boolean readSelector(char[] text, int length) {
            capitals = 0;
            smalls = 0;
            cursor = 0;
            skipBlanks(text, length);
            boolean direct = false;
            for (parts = 0; parts < MAX_PARTS; parts++) {
                partIsDirect[parts] = direct;
                if (!readPart(text, length)) {
                    return false;
                }
                int behindPart = cursor;
                skipBlanks(text, length);
                if (cursor == length) {
                    parts++;
                    return true;
                }
                direct = text[cursor] == '>';
                if (!direct && cursor == behindPart) {
                    return false;
                }
                if (direct) {
                    cursor++;
                    skipBlanks(text, length);
                }
            }
            return false;
        }

        private void skipBlanks(char[] text, int length) {
            while (cursor < length && text[cursor] == ' ') {
                cursor++;
            }
        }

        private boolean readPart(char[] text, int length) {
            int from = cursor;
            partName[parts] = NONE;
            partClasses[parts] = 0;
            if (cursor < length && isSmall(text[cursor])) {
                partName[parts] = text[cursor];
                smalls++;
                cursor++;
            } else if (cursor < length && text[cursor] == '*') {
                cursor++;
            }
            for (; cursor < length && isCapital(text[cursor]); cursor++) {
                partClasses[parts] |= 1 << (text[cursor] - 'A');
                capitals++;
            }
            return cursor > from;
        }

        /** Reads a body from which the blanks are already gone. */
        void readBody(char[] text, int length) {
            Arrays.fill(plain, NONE);
            Arrays.fill(important, NONE);
            int from = 0;
            for (int i = 0; i <= length; i++) {
                if (i == length || text[i] == ';') {
                    readDeclaration(text, from, i);
                    from = i + 1;
                }
            }
        }

        private void readDeclaration(char[] text, int from, int to) {
            boolean isImportant = to > from && text[to - 1] == '!';
            int end = isImportant ? to - 1 : to;
            if (end - from < 3 || text[from + 1] != ':') {
                return;
            }
            int property = PROPERTIES.indexOf(text[from]);
            int found = readValue(property, text, from + 2, end);
            if (found == NONE) {
                return;
            }
            if (isImportant) {
                important[property] = found;
            } else {
                plain[property] = found;
            }
        }

        private static int readValue(int property, char[] text, int from, int end) {
            int c = text[from];
            int length = end - from;
            switch (property) {
                case COLOUR:
                case GROUND:
                    return length == 1 && isDigit(c) ? c - '0' : NONE;
                case SIZE:
                    return length == 1 && isDigit(c) && c != '0' ? c - '0' : NONE;
                case DISPLAY:
                    return length == 1 && isOneOf(c, "bin") ? c : NONE;
                case MARGIN:
                case PADDING:
                case WIDTH:
                    return readLength(text, from, end);
                default:
                    return NONE;
            }
        }

        private static int readLength(char[] text, int from, int end) {
            if (end - from > 2) {
                return NONE;
            }
            int found = 0;
            for (int i = from; i < end; i++) {
                if (!isDigit(text[i])) {
                    return NONE;
                }
                found = 10 * found + text[i] - '0';
            }
            return found;
        }

        int declared(int property, boolean wantImportant) {
            return wantImportant ? important[property] : plain[property];
        }

        boolean weighsMoreThan(Rule other) {
            if (capitals != other.capitals) {
                return capitals > other.capitals;
            }
            return smalls > other.smalls;
        }

        boolean fits(Node element) {
            return fitsUpTo(parts - 1, element);
        }

        /** A selector has at most four parts, so this goes at most four deep. */
        private boolean fitsUpTo(int part, Node node) {
            if (part < 0 || part >= MAX_PARTS || !partFits(part, node)) {
                return false;
            }
            if (part == 0) {
                return true;
            }
            if (partIsDirect[part]) {
                return node.parent != null && fitsUpTo(part - 1, node.parent);
            }
            for (Node up = node.parent; up != null; up = up.parent) {
                if (fitsUpTo(part - 1, up)) {
                    return true;
                }
            }
            return false;
        }

        private boolean partFits(int part, Node node) {
            return node.isElement()
                    && (partName[part] == NONE || partName[part] == node.name)
                    && (partClasses[part] & ~node.classes) == 0;
        }
    }

    /** The rules of the style sheet, and the values that they give. */
    private static final class Sheet {
        private final Rule[] all = new Rule[MAX_RULES];
        private final boolean[] fitting = new boolean[MAX_RULES];
        private final char[] held = new char[MAX_SHEET];
        private int heldLength;
        private boolean inBody;
        private boolean selectorIsRight;
        int ruleCount;

        Sheet() {
            for (int i = 0; i < MAX_RULES; i++) {
                all[i] = new Rule();
            }
        }

        void empty() {
            heldLength = 0;
            inBody = false;
            ruleCount = 0;
        }

        void type(char c) {
            if (!inBody && c == '{') {
                selectorIsRight = ruleCount < MAX_RULES
                        && all[ruleCount].readSelector(held, heldLength);
                heldLength = 0;
                inBody = true;
            } else if (inBody && c == '}') {
                endRule();
            } else if (heldLength < MAX_SHEET && !(inBody && c == ' ')) {
                held[heldLength] = c;
                heldLength++;
            }
        }

        private void endRule() {
            if (selectorIsRight && ruleCount < MAX_RULES) {
                all[ruleCount].readBody(held, heldLength);
                ruleCount++;
            }
            heldLength = 0;
            inBody = false;
        }

        /** Gives ROOT and all elements their values, parents first: children take from them. */
        void dress(Tree tree) {
            for (int i = 0; i < tree.used; i++) {
                Node node = tree.order[i];
                if (node.name != TEXT) {
                    setDefaults(node);
                }
                if (node.isElement()) {
                    setDeclared(node);
                }
            }
        }

        private static void setDefaults(Node node) {
            int[] values = node.values;
            Node parent = node.parent;
            values[COLOUR] = parent == null ? 1 : parent.values[COLOUR];
            values[GROUND] = 0;
            values[SIZE] = parent == null ? 1 : parent.values[SIZE];
            values[DISPLAY] = node.name == ROOT || isOneOf(node.name, BLOCK_ROW_CELL) ? 'b' : 'i';
            values[MARGIN] = 0;
            values[PADDING] = 0;
            values[WIDTH] = NONE;
        }

        private void setDeclared(Node node) {
            for (int i = 0; i < ruleCount; i++) {
                fitting[i] = all[i].fits(node);
            }
            for (int property = 0; property < PROPERTY_COUNT; property++) {
                int found = strongest(property, true);
                if (found == NONE) {
                    found = strongest(property, false);
                }
                if (found != NONE) {
                    node.values[property] = found;
                }
            }
            if (node.values[DISPLAY] == 'i' && isOneOf(node.name, "trc")) {
                node.values[DISPLAY] = 'b';
            }
        }

        /** The declaration that counts in the rules that fit; of equal ones the last. */
        private int strongest(int property, boolean wantImportant) {
            Rule best = null;
            for (int i = 0; i < ruleCount; i++) {
                Rule rule = all[i];
                if (fitting[i] && rule.declared(property, wantImportant) != NONE
                        && (best == null || !best.weighsMoreThan(rule))) {
                    best = rule;
                }
            }
            return best == null ? NONE : best.declared(property, wantImportant);
        }
    }

    /** Makes the lines of one run after another. */
    private static final class Run {
        /** The letters of the run: those of earlier lines, of this line, of the word begun. */
        private final Letter[] row = new Letter[MAX_TEXT];
        private int lineStart;
        private int wordStart;
        private int rowEnd;
        private int left;
        private int width;
        private int usedWidth;
        private int wordWidth;
        private int lineHeight;
        /** The size of the first blank behind the last word; NONE when there is none yet. */
        private int gap;
        private boolean hasLines;
        /** Where this line begins. */
        private int top;
        int allLines;

        /** Begins the run that comes next in a box. */
        void beginIn(Box box) {
            left = box.contentLeft;
            top = box.end + box.last;
            width = box.contentWidth;
            lineStart = 0;
            wordStart = 0;
            rowEnd = 0;
            usedWidth = 0;
            wordWidth = 0;
            lineHeight = 0;
            gap = NONE;
            hasLines = false;
        }

        void addText(Node text, int size) {
            for (Letter letter = text.firstLetter; letter != null; letter = letter.next) {
                if (letter.code == ' ') {
                    endWord();
                    gap = gap == NONE ? size : gap;
                } else if (rowEnd < MAX_TEXT) {
                    letter.size = size;
                    row[rowEnd] = letter;
                    rowEnd++;
                    wordWidth += size;
                }
            }
        }

        /** A k that is no box. */
        void addBreak(int size) {
            endWord();
            if (wordStart == lineStart) {
                lineHeight = size;
            }
            endLine();
        }

        /** Ends the run: its lines are above what comes next in the box. */
        void endIn(Box box) {
            endWord();
            if (wordStart > lineStart) {
                endLine();
            }
            if (hasLines) {
                box.end = top;
                box.last = 0;
            }
        }

        private void endWord() {
            if (rowEnd == wordStart) {
                return;
            }
            if (wordStart > lineStart) {
                if (usedWidth + gap + wordWidth <= width) {
                    usedWidth += gap;
                } else {
                    endLine();
                }
            }
            for (int i = wordStart; i < rowEnd; i++) {
                row[i].left = left + usedWidth;
                row[i].hasPlace = true;
                usedWidth += row[i].size;
                lineHeight = Math.max(lineHeight, row[i].size);
            }
            wordStart = rowEnd;
            wordWidth = 0;
            gap = NONE;
        }

        private void endLine() {
            for (int i = lineStart; i < wordStart; i++) {
                row[i].top = top + lineHeight - row[i].size;
            }
            top += lineHeight;
            lineStart = wordStart;
            usedWidth = 0;
            lineHeight = 0;
            hasLines = true;
            allLines++;
        }
    }

    /** Lays boxes and lines out, and tells what is painted where. */
    private static final class Layout {
        final Run run = new Run();
        int width;

        void lay(Tree tree, int v) {
            width = v;
            run.allLines = 0;
            for (int i = 0; i < tree.used; i++) {
                tree.order[i].box.isThere = false;
            }
            for (int i = 0; i < tree.usedLetters; i++) {
                tree.letters[i].hasPlace = false;
            }
            layBox(tree.root, 0, 0, v, 0);
        }

        /** Lays out a box whose available width begins at left. */
        private void layBox(Node node, int left, int top, int available, int depth) {
            if (depth > MAX_NODES) {
                return;
            }
            Box box = node.box;
            int margin = node.values[MARGIN];
            int padding = node.values[PADDING];
            int wanted = node.values[WIDTH];
            box.isThere = true;
            box.left = left + margin;
            box.top = top;
            box.contentLeft = box.left + padding;
            box.contentTop = top + padding;
            box.contentWidth = wanted != NONE
                    ? wanted : Math.max(0, available - 2 * margin - 2 * padding);
            box.width = box.contentWidth + 2 * padding;
            box.end = box.contentTop;
            box.last = 0;
            if (node.name == 'h') {
                box.end++;
            } else if (node.name == 'r') {
                box.end += layCells(node, depth);
            } else {
                run.beginIn(box);
                layItems(node, box, depth);
                run.endIn(box);
            }
            box.height = box.end + box.last - box.contentTop + 2 * padding;
        }

        /** Lays the cells of an r side by side; how high its content is. */
        private int layCells(Node row, int depth) {
            Box box = row.box;
            int count = 0;
            for (Node cell = row.first; cell != null; cell = cell.after) {
                if (isBox(cell)) {
                    count++;
                }
            }
            int share = count == 0 ? 0 : box.contentWidth / count;
            int left = box.contentLeft;
            int height = 0;
            for (Node cell = row.first; cell != null; cell = cell.after) {
                if (isBox(cell)) {
                    int margin = cell.values[MARGIN];
                    layBox(cell, left, box.contentTop + margin, share, depth + 1);
                    left += share;
                    height = Math.max(height, 2 * margin + cell.box.height);
                }
            }
            return height;
        }

        private static boolean isBox(Node node) {
            return node.isElement() && node.values[DISPLAY] == 'b';
        }

        /** Puts into a box what is in a node: the box's own, or one in it that is no box. */
        private void layItems(Node from, Box into, int depth) {
            if (depth > MAX_NODES) {
                return;
            }
            for (Node child = from.first; child != null; child = child.after) {
                if (child.name == TEXT) {
                    run.addText(child, from.values[SIZE]);
                } else if (child.values[DISPLAY] == 'b') {
                    layBelow(child, into, depth);
                } else if (child.values[DISPLAY] == 'i' && child.name == 'k') {
                    run.addBreak(child.values[SIZE]);
                } else if (child.values[DISPLAY] == 'i') {
                    layItems(child, into, depth + 1);
                }
            }
        }

        private void layBelow(Node child, Box into, int depth) {
            run.endIn(into);
            int margin = child.values[MARGIN];
            int top = into.end + Math.max(into.last, margin);
            layBox(child, into.contentLeft, top, into.contentWidth, depth + 1);
            into.end = top + child.box.height;
            into.last = margin;
            run.beginIn(into);
        }

        /** The colour of a pixel: worked out when it is asked for, so that no picture is kept. */
        int paintedAt(Tree tree, int x, int y) {
            int colour = 0;
            for (int i = 0; i < tree.used; i++) {
                Node node = tree.order[i];
                if (node.box.isThere && node.values[GROUND] != 0 && covers(node.box, x, y)) {
                    colour = node.values[GROUND];
                }
            }
            for (int i = 0; i < tree.used; i++) {
                Node node = tree.order[i];
                for (Letter letter = node.firstLetter; letter != null; letter = letter.next) {
                    if (letter.hasPlace && node.parent != null && marks(letter, x, y)) {
                        colour = node.parent.values[COLOUR];
                    }
                }
            }
            return colour;
        }

        private static boolean covers(Box box, int x, int y) {
            return x >= box.left && x < box.left + box.width
                    && y >= box.top && y < box.top + box.height;
        }

        private static boolean marks(Letter letter, int x, int y) {
            int size = letter.size;
            int i = x - letter.left;
            int j = y - letter.top;
            if (i < 0 || i >= size || j < 0 || j >= size) {
                return false;
            }
            int bit = 2 * (2 * j / size) + 2 * i / size;
            return (letter.code >> bit & 1) != 0;
        }
    }
}
