/**
 * A desk for pages of XML: read with the first fault, looked through as pages of a book must be,
 * their parts told, their references followed, written anew.
 */
public final class PlainPages {
    public static final int NONE = -1;

    private static final int MOST_BYTES = 4000;
    private static final int READY_BYTES = 20;
    private static final int MOST_ELEMENTS = 300;
    private static final int MOST_DEEP = 40;
    private static final int MOST_NAME = 30;
    private static final int MOST_DECIMALS = 7;
    private static final int MOST_HEXADECIMALS = 6;
    private static final int MOST_START_DIGITS = 9;
    private static final int LAST_CHARACTER = 1114111;

    // 300 elements have at most 600 tags, and a text stands between two of them.
    private static final int MOST_NODES = 900;
    // The shortest attribute takes five bytes of the tape: a space, a letter, = and two quotes.
    private static final int MOST_ATTRIBUTES = 800;
    // No byte of the tape is written anew as more than the six of &quot;
    private static final int MOST_OUTPUT = 24000;

    private static final String DECLARATION = "<?xml version=\"1.0\" encoding=\"UTF-8\"?>";

    private static final int FAULT_OF_READING = 1;
    private static final int FAULT_OF_PAGE = 2;
    private static final int FAULT_OF_LINK = 3;

    private static final int TEXT = 0;
    private static final int ELEMENT = 1;

    // The columns of a node; the first eight are numbered as the face numbers them.
    private static final int SORT = 0;
    private static final int HOLDER = 1;
    private static final int BEGIN = 2;
    private static final int LETTERS = 3;
    private static final int ATTRIBUTES = 4;
    private static final int NEXT = 5;
    private static final int FIRST = 6;
    private static final int DEPTH = 7;
    private static final int LETTERS_FROM = 8;
    private static final int ATTRIBUTES_FROM = 9;
    private static final int PAST = 10;
    private static final int LAST = 11;
    private static final int KIND = 12;
    private static final int ID_ROW = 13;
    private static final int NODE_WIDTH = 14;

    // The columns of an attribute; the first three are numbered as the face numbers them.
    private static final int NAME_LETTERS = 0;
    private static final int VALUE_LETTERS = 1;
    private static final int ATTRIBUTE_BEGIN = 2;
    private static final int NAME_FROM = 3;
    private static final int VALUE_FROM = 4;
    private static final int ATTRIBUTE_WIDTH = 5;

    // What an element counts as where it stands. Where just certain ones must be held,
    // they stand in the order of these bits.
    private static final int AS_WHOLE = 1;
    private static final int AS_HEAD = 2;
    private static final int AS_BODY = 4;
    private static final int AS_TITLE = 8;
    private static final int AS_CODE = 16;
    private static final int AS_BLOCK = 32;
    private static final int AS_ITEM = 64;
    private static final int AS_INLINE = 128;
    private static final int AS_ANY = 255;
    // What else an element's holding says.
    private static final int WITH_TEXT = 256;
    private static final int WITH_WHITE = 512;
    private static final int JUST_THESE = 1024;

    private static final int ID = 1;
    private static final int HREF = 2;
    private static final int TITLE = 4;
    private static final int SRC = 8;
    private static final int ALT = 16;
    private static final int CLASS = 32;
    private static final int START = 64;

    private static final Kind[] KINDS = Kind.values();

    private final int[] ready = new int[READY_BYTES];
    private final Strip tape = new Strip(MOST_BYTES);
    private final Strip sheet = new Strip(MOST_OUTPUT);
    private final Book book = new Book();
    private final Reader reader = new Reader(tape, book);
    private final Inspector inspector = new Inspector(book);
    private final Scribe scribe = new Scribe(book, sheet);
    private int faultSort;
    private int faultPlace;

    public PlainPages() {
        faultSort = 0;
        faultPlace = NONE;
    }

    public void feed(int a, int b, int c, int d, int e) {
        makeReady(0, a);
        makeReady(4, b);
        makeReady(8, c);
        makeReady(12, d);
        makeReady(16, e);
    }

    public int end(int n) {
        if (n < 0 || n > ready.length || tape.size() + n > MOST_BYTES) {
            return NONE;
        }
        for (int i = 0; i < n; i++) {
            tape.add(ready[i]);
        }
        for (int i = 0; i < ready.length; i++) {
            ready[i] = 0;
        }
        return tape.size();
    }

    public void wipe() {
        tape.clear();
    }

    public int read() throws IllegalArgumentException {
        int place = reader.firstFault();
        keepFault(FAULT_OF_READING, place);
        if (place != NONE) {
            throw new IllegalArgumentException("the tape is no XML");
        }
        return book.size();
    }

    public boolean isPage() throws IllegalStateException {
        if (book.size() == 0) {
            throw new IllegalStateException("nothing is read");
        }
        return keepFault(FAULT_OF_PAGE, inspector.firstUnfit());
    }

    public boolean isLinked() throws IllegalStateException {
        if (book.size() == 0) {
            throw new IllegalStateException("nothing is read");
        }
        return keepFault(FAULT_OF_LINK, inspector.firstAstray());
    }

    public int fault(int what) {
        if (what == 0) {
            return faultSort;
        }
        return what == 1 ? faultPlace : NONE;
    }

    public int node(int k, int what) {
        return what > DEPTH ? NONE : book.ofNode(k, what);
    }

    public int letter(int k, int i) {
        return book.letterAt(book.ofNode(k, LETTERS_FROM), book.ofNode(k, LETTERS), i);
    }

    public int attribute(int k, int j, int what) {
        return what > ATTRIBUTE_BEGIN ? NONE : book.ofAttribute(book.attributeOf(k, j), what);
    }

    public int sign(int k, int j, boolean value, int i) {
        int row = book.attributeOf(k, j);
        int from = book.ofAttribute(row, value ? VALUE_FROM : NAME_FROM);
        return book.letterAt(from, book.ofAttribute(row, value ? VALUE_LETTERS : NAME_LETTERS), i);
    }

    public int find() {
        for (int k = 0; k < book.size(); k++) {
            int id = book.ofNode(k, ID_ROW);
            if (id != NONE && book.valueIs(id, tape)) {
                return k;
            }
        }
        return NONE;
    }

    public int plain(int k) throws IndexOutOfBoundsException {
        if (k < 0 || k >= book.size()) {
            throw new IndexOutOfBoundsException("there is no such node");
        }
        scribe.putPlain(k);
        return sheet.size();
    }

    public int write(int k) throws IndexOutOfBoundsException {
        if (k < 0 || k >= book.size()) {
            throw new IndexOutOfBoundsException("there is no such node");
        }
        scribe.putWritten(k);
        return sheet.size();
    }

    public int output(int i) {
        return sheet.get(i);
    }

    public int about(int what) {
        switch (what) {
            case 0:
                return tape.size();
            case 1:
                return book.size();
            case 2:
                return book.elementCount();
            case 3:
                return sheet.size();
            default:
                return NONE;
        }
    }

    private void makeReady(int from, int four) {
        for (int i = 0; i < 4; i++) {
            int to = from + i;
            if (to >= 0 && to < ready.length) {
                ready[to] = (four >>> (24 - 8 * i)) & 255;
            }
        }
    }

    private boolean keepFault(int sort, int place) {
        faultSort = place == NONE ? 0 : sort;
        faultPlace = place;
        return place == NONE;
    }

    /** A row of numbers that grows up to a limit; what is not on it is told as NONE. */
    private static final class Strip {
        private final int[] items;
        private int count;

        Strip(int most) {
            items = new int[Math.max(most, 0)];
            count = 0;
        }

        int size() {
            return count;
        }

        int get(int i) {
            return i >= 0 && i < count && i < items.length ? items[i] : NONE;
        }

        void add(int item) {
            if (count >= 0 && count < items.length) {
                items[count] = item;
                count++;
            }
        }

        void clear() {
            count = 0;
        }
    }

    /** Rows of equal width in one array; a cell that is not there is told as NONE. */
    private static final class Table {
        private final int most;
        private final int width;
        private final int[] cells;
        private int rows;

        Table(int most, int width) {
            this.most = most;
            this.width = width;
            cells = new int[Math.max(most * width, 0)];
            rows = 0;
        }

        int size() {
            return rows;
        }

        /** The new row's number; NONE if there is no room. */
        int addRow() {
            if (rows >= most) {
                return NONE;
            }
            int past = (rows + 1) * width;
            for (int cell = rows * width; cell >= 0 && cell < past && cell < cells.length; cell++) {
                cells[cell] = NONE;
            }
            rows++;
            return rows - 1;
        }

        int get(int row, int column) {
            if (row < 0 || row >= rows || column < 0 || column >= width) {
                return NONE;
            }
            int cell = row * width + column;
            return cell < cells.length ? cells[cell] : NONE;
        }

        void set(int row, int column, int value) {
            if (row < 0 || row >= rows || column < 0 || column >= width) {
                return;
            }
            int cell = row * width + column;
            if (cell < cells.length) {
                cells[cell] = value;
            }
        }

        void clear() {
            rows = 0;
        }
    }

    /** What bytes and characters may be where, and how characters stand in UTF-8. */
    private static final class Signs {
        private Signs() {
        }

        static boolean isWhite(int sign) {
            return sign == 9 || sign == 10 || sign == 13 || sign == 32;
        }

        static boolean isDigit(int sign) {
            return sign >= '0' && sign <= '9';
        }

        static boolean beginsName(int sign) {
            return sign >= 'A' && sign <= 'Z' || sign >= 'a' && sign <= 'z' || sign == '_';
        }

        static boolean goesOnName(int sign) {
            return beginsName(sign) || isDigit(sign) || sign == '-' || sign == '.' || sign == ':';
        }

        static int valueOfDigit(int sign, boolean hexadecimal) {
            if (isDigit(sign)) {
                return sign - '0';
            }
            if (hexadecimal && sign >= 'A' && sign <= 'F') {
                return sign - 'A' + 10;
            }
            return hexadecimal && sign >= 'a' && sign <= 'f' ? sign - 'a' + 10 : NONE;
        }

        static boolean isCharacter(int code) {
            return code >= 0 && code <= LAST_CHARACTER && (code < 55296 || code > 57343);
        }

        static boolean isForbidden(int code) {
            return code < 32 && !isWhite(code) || code == 65534 || code == 65535;
        }

        static int bytesOf(int code) {
            if (code < 0x80) {
                return 1;
            }
            if (code < 0x800) {
                return 2;
            }
            return code < 0x10000 ? 3 : 4;
        }

        /** The character whose UTF-8 begins at a place; NONE if none does. */
        static int characterAt(Strip strip, int place) {
            int lead = strip.get(place);
            if (lead < 0x80) {
                return lead;
            }
            if (lead < 0xC0 || lead >= 0xF8) {
                return NONE;
            }
            int bytes = lead < 0xE0 ? 2 : lead < 0xF0 ? 3 : 4;
            int code = lead & (0x7F >> bytes);
            for (int i = 1; i < bytes; i++) {
                int next = strip.get(place + i);
                if ((next & 0xC0) != 0x80) {
                    return NONE;
                }
                code = code << 6 | next & 0x3F;
            }
            return isCharacter(code) && bytesOf(code) == bytes ? code : NONE;
        }

        static void addCharacter(Strip strip, int code) {
            int bytes = bytesOf(code);
            if (bytes == 1) {
                strip.add(code);
                return;
            }
            strip.add((0xFF00 >> bytes) & 0xFF | code >> (6 * (bytes - 1)));
            for (int i = bytes - 2; i >= 0; i--) {
                strip.add(0x80 | code >> (6 * i) & 0x3F);
            }
        }
    }

    /** What was read: its nodes, their attributes, and the characters of both. */
    private static final class Book {
        private final Table nodes = new Table(MOST_NODES, NODE_WIDTH);
        private final Table attributes = new Table(MOST_ATTRIBUTES, ATTRIBUTE_WIDTH);
        // Every character that is kept took a byte of the tape at least.
        private final Strip letters = new Strip(MOST_BYTES);
        private int elements = 0;

        void clear() {
            nodes.clear();
            attributes.clear();
            letters.clear();
            elements = 0;
        }

        int size() {
            return nodes.size();
        }

        int elementCount() {
            return elements;
        }

        int ofNode(int k, int column) {
            return nodes.get(k, column);
        }

        int ofAttribute(int row, int column) {
            return attributes.get(row, column);
        }

        int letterAt(int from, int count, int i) {
            return i >= 0 && i < count ? letters.get(from + i) : NONE;
        }

        boolean isElement(int k) {
            return nodes.get(k, SORT) == ELEMENT;
        }

        /** null for a text, and for an element that no page has. */
        Kind kindOf(int k) {
            int kind = nodes.get(k, KIND);
            return kind >= 0 && kind < KINDS.length ? KINDS[kind] : null;
        }

        int attributeOf(int k, int j) {
            boolean there = j >= 0 && j < nodes.get(k, ATTRIBUTES);
            return there ? nodes.get(k, ATTRIBUTES_FROM) + j : NONE;
        }

        int attributeNamed(int k, String name) {
            int count = nodes.get(k, ATTRIBUTES);
            for (int j = 0; j < count; j++) {
                int row = attributeOf(k, j);
                if (isNamed(row, name)) {
                    return row;
                }
            }
            return NONE;
        }

        boolean isNamed(int row, String name) {
            return lettersAre(attributes.get(row, NAME_FROM), attributes.get(row, NAME_LETTERS), name);
        }

        boolean valueIs(int row, Strip bytes) {
            int from = attributes.get(row, VALUE_FROM);
            int count = attributes.get(row, VALUE_LETTERS);
            int place = 0;
            for (int i = 0; i < count; i++) {
                int code = letters.get(from + i);
                if (Signs.characterAt(bytes, place) != code) {
                    return false;
                }
                place += Signs.bytesOf(code);
            }
            return place == bytes.size();
        }

        /** Whether a value, its first characters left away, is another one. */
        boolean valueBehindIs(int row, int left, int other) {
            int count = attributes.get(other, VALUE_LETTERS);
            return attributes.get(row, VALUE_LETTERS) - left == count
                && lettersAgree(attributes.get(row, VALUE_FROM) + left, attributes.get(other, VALUE_FROM), count);
        }

        int addNode(int sort, int holder, int begin) {
            int k = nodes.addRow();
            nodes.set(k, SORT, sort);
            nodes.set(k, HOLDER, holder);
            nodes.set(k, BEGIN, begin);
            nodes.set(k, ATTRIBUTES, 0);
            nodes.set(k, ATTRIBUTES_FROM, attributes.size());
            nodes.set(k, LETTERS_FROM, letters.size());
            nodes.set(k, DEPTH, holder == NONE ? 1 : nodes.get(holder, DEPTH) + 1);
            int ahead = nodes.get(holder, LAST);
            nodes.set(ahead, NEXT, k);
            if (ahead == NONE) {
                nodes.set(holder, FIRST, k);
            }
            nodes.set(holder, LAST, k);
            if (sort == ELEMENT) {
                elements++;
            }
            return k;
        }

        void addLetter(int code) {
            letters.add(code);
        }

        /** The letters that came since the node was added are its own. */
        void endLetters(int k) {
            nodes.set(k, LETTERS, letters.size() - nodes.get(k, LETTERS_FROM));
        }

        void keepKind(int k) {
            int from = nodes.get(k, LETTERS_FROM);
            int count = nodes.get(k, LETTERS);
            for (int i = 0; i < KINDS.length; i++) {
                if (KINDS[i] != null && lettersAre(from, count, KINDS[i].label)) {
                    nodes.set(k, KIND, i);
                }
            }
        }

        /** All nodes that came since the node was added are in it. */
        void shut(int k) {
            nodes.set(k, PAST, nodes.size());
        }

        int addAttribute(int k, int begin) {
            int row = attributes.addRow();
            attributes.set(row, ATTRIBUTE_BEGIN, begin);
            attributes.set(row, NAME_FROM, letters.size());
            nodes.set(k, ATTRIBUTES, nodes.get(k, ATTRIBUTES) + 1);
            return row;
        }

        void endName(int row) {
            attributes.set(row, NAME_LETTERS, letters.size() - attributes.get(row, NAME_FROM));
            attributes.set(row, VALUE_FROM, letters.size());
        }

        void keepId(int k, int row) {
            nodes.set(k, ID_ROW, row);
        }

        void endLatestValue() {
            int row = attributes.size() - 1;
            attributes.set(row, VALUE_LETTERS, letters.size() - attributes.get(row, VALUE_FROM));
        }

        boolean isNamedAgain(int k, int row) {
            int from = attributes.get(row, NAME_FROM);
            int count = attributes.get(row, NAME_LETTERS);
            for (int other = nodes.get(k, ATTRIBUTES_FROM); other < row; other++) {
                if (attributes.get(other, NAME_LETTERS) == count
                    && lettersAgree(attributes.get(other, NAME_FROM), from, count)) {
                    return true;
                }
            }
            return false;
        }

        private boolean lettersAgree(int from, int other, int count) {
            for (int i = 0; i < count; i++) {
                if (letters.get(from + i) != letters.get(other + i)) {
                    return false;
                }
            }
            return true;
        }

        private boolean lettersAre(int from, int count, String text) {
            if (count != text.length()) {
                return false;
            }
            for (int i = 0; i < text.length(); i++) {
                if (letters.get(from + i) != text.charAt(i)) {
                    return false;
                }
            }
            return true;
        }
    }

    /** Reads the tape into the book, a piece a step, up to the first fault. */
    private static final class Reader {
        private final Strip tape;
        private final Book book;
        private int at;
        private int open;
        private boolean inTag;
        private int wrong;

        Reader(Strip tape, Book book) {
            this.tape = tape;
            this.book = book;
            at = 0;
            open = NONE;
            inTag = false;
            wrong = NONE;
        }

        /** The place of the fault, with nothing read; NONE if all is read. */
        int firstFault() {
            book.clear();
            wrong = NONE;
            open = NONE;
            at = standsAt(0, DECLARATION) ? DECLARATION.length() : 0;
            skipWhite();
            boolean well = beginElement();
            // Every step takes a byte at least.
            for (int left = tape.size(); left > 0 && well && open != NONE; left--) {
                if (inTag) {
                    well = readInTag();
                } else if (tape.get(at) == '<') {
                    well = readTag();
                } else {
                    well = readText();
                }
            }
            skipWhite();
            if (well && (open != NONE || at != tape.size())) {
                refuse(at);
            }
            if (wrong != NONE) {
                book.clear();
            }
            return wrong;
        }

        private boolean refuse(int place) {
            wrong = place;
            return false;
        }

        private boolean take(int sign) {
            if (tape.get(at) != sign) {
                return refuse(at);
            }
            at++;
            return true;
        }

        private void skipWhite() {
            while (at < tape.size() && Signs.isWhite(tape.get(at))) {
                at++;
            }
        }

        private boolean standsAt(int place, String text) {
            for (int i = 0; i < text.length(); i++) {
                if (tape.get(place + i) != text.charAt(i)) {
                    return false;
                }
            }
            return true;
        }

        private boolean passName() {
            int begin = at;
            if (!Signs.beginsName(tape.get(at))) {
                return refuse(at);
            }
            while (at < tape.size() && Signs.goesOnName(tape.get(at))) {
                at++;
            }
            return at - begin <= MOST_NAME || refuse(begin + MOST_NAME);
        }

        private void keepLetters(int from) {
            for (int i = from; i < at; i++) {
                book.addLetter(tape.get(i));
            }
        }

        private boolean beginElement() {
            int begin = at;
            if (!take('<') || !passName()) {
                return false;
            }
            open = book.addNode(ELEMENT, open, begin);
            keepLetters(begin + 1);
            book.endLetters(open);
            book.keepKind(open);
            inTag = true;
            return true;
        }

        private boolean readInTag() {
            int before = at;
            skipWhite();
            if (Signs.beginsName(tape.get(at))) {
                return at > before ? beginAttribute() && takeCharacters('"') && endAttribute() : refuse(at);
            }
            boolean holdsNothing = tape.get(at) == '/';
            if (holdsNothing) {
                at++;
            }
            if (!take('>')) {
                return false;
            }
            inTag = false;
            if (holdsNothing) {
                shutElement();
            }
            return true;
        }

        private boolean beginAttribute() {
            int begin = at;
            if (!passName()) {
                return false;
            }
            int row = book.addAttribute(open, begin);
            keepLetters(begin);
            book.endName(row);
            if (book.isNamedAgain(open, row)) {
                return refuse(begin);
            }
            if (book.isNamed(row, "id")) {
                book.keepId(open, row);
            }
            return take('=') && take('"');
        }

        private boolean endAttribute() {
            book.endLatestValue();
            return take('"');
        }

        private boolean readTag() {
            if (tape.get(at + 1) == '/') {
                return endElement();
            }
            boolean full = book.elementCount() >= MOST_ELEMENTS || book.ofNode(open, DEPTH) >= MOST_DEEP;
            return full ? refuse(at) : beginElement();
        }

        private boolean readText() {
            if (tape.get(at) == NONE) {
                return refuse(at);
            }
            int k = book.addNode(TEXT, open, at);
            if (!takeCharacters('<')) {
                return false;
            }
            book.endLetters(k);
            book.shut(k);
            return true;
        }

        private boolean endElement() {
            at += 2;
            int begin = at;
            if (!passName()) {
                return false;
            }
            if (!isOpenName(begin)) {
                return refuse(begin);
            }
            skipWhite();
            if (!take('>')) {
                return false;
            }
            shutElement();
            return true;
        }

        private boolean isOpenName(int begin) {
            int count = book.ofNode(open, LETTERS);
            int from = book.ofNode(open, LETTERS_FROM);
            if (count != at - begin) {
                return false;
            }
            for (int i = 0; i < count; i++) {
                if (book.letterAt(from, count, i) != tape.get(begin + i)) {
                    return false;
                }
            }
            return true;
        }

        private void shutElement() {
            book.shut(open);
            open = book.ofNode(open, HOLDER);
        }

        /** Takes characters up to the stop, a < or the tape's end. */
        private boolean takeCharacters(int stop) {
            for (int left = tape.size() - at; left > 0; left--) {
                int next = tape.get(at);
                if (next == stop || next == '<' || next == NONE) {
                    return true;
                }
                int begin = at;
                int code;
                if (next != '&') {
                    code = takeCharacter();
                } else if (tape.get(at + 1) == '#') {
                    code = takeNumbered();
                } else {
                    code = takeNamed();
                }
                if (!Signs.isCharacter(code) || Signs.isForbidden(code)) {
                    return refuse(begin);
                }
                book.addLetter(code);
            }
            return true;
        }

        private int takeCharacter() {
            int code = Signs.characterAt(tape, at);
            at += Signs.bytesOf(code);
            return code;
        }

        /** The character that a &# means; NONE if it is no reference. */
        private int takeNumbered() {
            boolean hexadecimal = tape.get(at + 2) == 'x' || tape.get(at + 2) == 'X';
            int most = hexadecimal ? MOST_HEXADECIMALS : MOST_DECIMALS;
            at += hexadecimal ? 3 : 2;
            int code = 0;
            for (int digits = 0; digits <= most; digits++) {
                int digit = Signs.valueOfDigit(tape.get(at), hexadecimal);
                if (digit == NONE) {
                    boolean whole = digits > 0 && tape.get(at) == ';';
                    at++;
                    return whole ? code : NONE;
                }
                code = code * (hexadecimal ? 16 : 10) + digit;
                at++;
            }
            return NONE;
        }

        /** The character that another & means; NONE if it is no reference. */
        private int takeNamed() {
            int code = NONE;
            if (standsAt(at, "&amp;")) {
                code = '&';
                at += 5;
            } else if (standsAt(at, "&lt;")) {
                code = '<';
                at += 4;
            } else if (standsAt(at, "&gt;")) {
                code = '>';
                at += 4;
            } else if (standsAt(at, "&quot;")) {
                code = '"';
                at += 6;
            } else if (standsAt(at, "&apos;")) {
                code = '\'';
                at += 6;
            }
            return code;
        }
    }

    /** The elements of a page: as what they stand, what they hold, and their attributes beside id. */
    private enum Kind {
        HTML("html", AS_WHOLE, AS_HEAD | AS_BODY | WITH_WHITE | JUST_THESE, 0, 0),
        HEAD("head", AS_HEAD, AS_TITLE | WITH_WHITE | JUST_THESE, 0, 0),
        TITLE_OF_PAGE("title", AS_TITLE, WITH_TEXT, 0, 0),
        BODY("body", AS_BODY, AS_BLOCK | WITH_WHITE, 0, 0),
        BLOCKQUOTE("blockquote", AS_BLOCK, AS_BLOCK | WITH_WHITE, 0, 0),
        UL("ul", AS_BLOCK, AS_ITEM | WITH_WHITE, 0, 0),
        OL("ol", AS_BLOCK, AS_ITEM | WITH_WHITE, START, 0),
        LI("li", AS_ITEM, AS_BLOCK | AS_INLINE | WITH_TEXT, 0, 0),
        P("p", AS_BLOCK, AS_INLINE | WITH_TEXT, 0, 0),
        H1("h1", AS_BLOCK, AS_INLINE | WITH_TEXT, 0, 0),
        H2("h2", AS_BLOCK, AS_INLINE | WITH_TEXT, 0, 0),
        H3("h3", AS_BLOCK, AS_INLINE | WITH_TEXT, 0, 0),
        H4("h4", AS_BLOCK, AS_INLINE | WITH_TEXT, 0, 0),
        H5("h5", AS_BLOCK, AS_INLINE | WITH_TEXT, 0, 0),
        H6("h6", AS_BLOCK, AS_INLINE | WITH_TEXT, 0, 0),
        EM("em", AS_INLINE, AS_INLINE | WITH_TEXT, 0, 0),
        STRONG("strong", AS_INLINE, AS_INLINE | WITH_TEXT, 0, 0),
        A("a", AS_INLINE, AS_INLINE | WITH_TEXT, HREF | TITLE, HREF),
        PRE("pre", AS_BLOCK, AS_CODE | WITH_WHITE | JUST_THESE, 0, 0),
        CODE("code", AS_INLINE | AS_CODE, WITH_TEXT, CLASS, 0),
        HR("hr", AS_BLOCK, 0, 0, 0),
        BR("br", AS_INLINE, 0, 0, 0),
        IMG("img", AS_INLINE, 0, SRC | ALT | TITLE, SRC | ALT);

        private final String label;
        private final int as;
        private final int holding;
        private final int mayHave;
        private final int mustHave;

        Kind(String label, int as, int holding, int mayHave, int mustHave) {
            this.label = label;
            this.as = as;
            this.holding = holding;
            this.mayHave = mayHave;
            this.mustHave = mustHave;
        }

        boolean says(int bit) {
            return (holding & bit) != 0;
        }

        /** Just those of the attributes that this one may have, and all that it must have. */
        boolean allows(int marks) {
            return (marks & ~(mayHave | ID)) == 0 && (mustHave & ~marks) == 0;
        }
    }

    /** Looks through the book for what a page may not be, and for links that lead nowhere. */
    private static final class Inspector {
        private final Book book;

        Inspector(Book book) {
            this.book = book;
        }

        /** Where the first element begins that is not as a page's must be; NONE without. */
        int firstUnfit() {
            for (int k = 0; k < book.size(); k++) {
                Kind kind = book.kindOf(k);
                boolean fit = kind != null && mayBeThere(k, kind) && hasFitAttributes(k, kind)
                    && holdsWhatItMust(k, kind) && hasFitText(k, kind);
                if (book.isElement(k) && !fit) {
                    return book.ofNode(k, BEGIN);
                }
            }
            return NONE;
        }

        /** Where the first a begins whose link leads nowhere; NONE without. */
        int firstAstray() {
            for (int k = 0; k < book.size(); k++) {
                if (book.kindOf(k) == Kind.A && !isLed(k)) {
                    return book.ofNode(k, BEGIN);
                }
            }
            return NONE;
        }

        private boolean isLed(int k) {
            int href = book.attributeNamed(k, "href");
            int from = book.ofAttribute(href, VALUE_FROM);
            if (book.letterAt(from, book.ofAttribute(href, VALUE_LETTERS), 0) != '#') {
                return true;
            }
            return isIdAhead(href, 1, book.size());
        }

        private boolean mayBeThere(int k, Kind kind) {
            int holder = book.ofNode(k, HOLDER);
            if (holder == NONE) {
                return kind.as == AS_WHOLE;
            }
            Kind around = book.kindOf(holder);
            return around != null && around.says(kind.as) && !(kind == Kind.A && isInA(k));
        }

        private boolean isInA(int k) {
            int around = book.ofNode(k, HOLDER);
            for (int deep = 0; deep < MOST_DEEP && around != NONE; deep++) {
                if (book.kindOf(around) == Kind.A) {
                    return true;
                }
                around = book.ofNode(around, HOLDER);
            }
            return false;
        }

        private boolean hasFitAttributes(int k, Kind kind) {
            int marks = 0;
            for (int j = 0; j < book.ofNode(k, ATTRIBUTES); j++) {
                int row = book.attributeOf(k, j);
                int mark = markOf(row);
                if (mark == 0 || mark == ID && isIdAhead(row, 0, k) || mark == START && !isNumber(row)) {
                    return false;
                }
                marks |= mark;
            }
            return kind.allows(marks);
        }

        /** 0 for an attribute that no page has. */
        private int markOf(int row) {
            if (book.isNamed(row, "id")) {
                return ID;
            }
            if (book.isNamed(row, "href")) {
                return HREF;
            }
            if (book.isNamed(row, "title")) {
                return TITLE;
            }
            if (book.isNamed(row, "src")) {
                return SRC;
            }
            if (book.isNamed(row, "alt")) {
                return ALT;
            }
            if (book.isNamed(row, "class")) {
                return CLASS;
            }
            return book.isNamed(row, "start") ? START : 0;
        }

        /** Whether a value, its first characters left away, is the id of a node below a number. */
        private boolean isIdAhead(int row, int left, int below) {
            for (int k = 0; k < below; k++) {
                int id = book.ofNode(k, ID_ROW);
                if (id != NONE && book.valueBehindIs(row, left, id)) {
                    return true;
                }
            }
            return false;
        }

        private boolean isNumber(int row) {
            int from = book.ofAttribute(row, VALUE_FROM);
            int count = book.ofAttribute(row, VALUE_LETTERS);
            for (int i = 0; i < count; i++) {
                if (!Signs.isDigit(book.letterAt(from, count, i))) {
                    return false;
                }
            }
            return count >= 1 && count <= MOST_START_DIGITS;
        }

        private boolean holdsWhatItMust(int k, Kind kind) {
            if (!kind.says(JUST_THESE)) {
                return true;
            }
            int due = kind.holding & AS_ANY;
            for (int i = k + 1; i < book.ofNode(k, PAST); i++) {
                if (book.ofNode(i, HOLDER) == k && book.isElement(i)) {
                    int nextDue = due & -due;
                    Kind held = book.kindOf(i);
                    if (held == null || (held.as & nextDue) == 0) {
                        return false;
                    }
                    due -= nextDue;
                }
            }
            return due == 0;
        }

        private boolean hasFitText(int k, Kind kind) {
            if (kind.says(WITH_TEXT)) {
                return true;
            }
            for (int i = k + 1; i < book.ofNode(k, PAST); i++) {
                boolean isText = book.ofNode(i, HOLDER) == k && !book.isElement(i);
                if (isText && !(kind.says(WITH_WHITE) && isWhiteText(i))) {
                    return false;
                }
            }
            return true;
        }

        private boolean isWhiteText(int k) {
            int from = book.ofNode(k, LETTERS_FROM);
            int count = book.ofNode(k, LETTERS);
            for (int i = 0; i < count; i++) {
                if (!Signs.isWhite(book.letterAt(from, count, i))) {
                    return false;
                }
            }
            return true;
        }
    }

    /** Puts nodes on the sheet, plain or written anew. */
    private static final class Scribe {
        private final Book book;
        private final Strip sheet;

        Scribe(Book book, Strip sheet) {
            this.book = book;
            this.sheet = sheet;
        }

        void putPlain(int top) {
            sheet.clear();
            int past = book.ofNode(top, PAST);
            int shownFrom = top;
            for (int k = top; k < past; k++) {
                Kind kind = book.kindOf(k);
                if (k >= shownFrom && (kind == Kind.BR || kind == Kind.IMG)) {
                    putInstead(k, kind);
                    shownFrom = book.ofNode(k, PAST);
                } else if (k >= shownFrom && !book.isElement(k)) {
                    putLetters(book.ofNode(k, LETTERS_FROM), book.ofNode(k, LETTERS));
                }
            }
        }

        void putWritten(int top) {
            sheet.clear();
            int past = book.ofNode(top, PAST);
            int open = NONE;
            for (int k = top; k < past; k++) {
                open = putEnds(open, k, top);
                if (book.isElement(k)) {
                    putBegin(k);
                    open = book.ofNode(k, FIRST) == NONE ? open : k;
                } else {
                    putTold(book.ofNode(k, LETTERS_FROM), book.ofNode(k, LETTERS));
                }
            }
            putEnds(open, past, top);
        }

        private void putInstead(int k, Kind kind) {
            if (kind == Kind.BR) {
                sheet.add(10);
                return;
            }
            int alt = book.attributeNamed(k, "alt");
            putLetters(book.ofAttribute(alt, VALUE_FROM), book.ofAttribute(alt, VALUE_LETTERS));
        }

        private void putBegin(int k) {
            sheet.add('<');
            putLetters(book.ofNode(k, LETTERS_FROM), book.ofNode(k, LETTERS));
            for (int j = 0; j < book.ofNode(k, ATTRIBUTES); j++) {
                int row = book.attributeOf(k, j);
                sheet.add(' ');
                putLetters(book.ofAttribute(row, NAME_FROM), book.ofAttribute(row, NAME_LETTERS));
                putText("=\"");
                putTold(book.ofAttribute(row, VALUE_FROM), book.ofAttribute(row, VALUE_LETTERS));
                sheet.add('"');
            }
            putText(book.ofNode(k, FIRST) == NONE ? "/>" : ">");
        }

        /** Ends the open elements that end ahead of a node; answers which one is open then. */
        private int putEnds(int innermost, int k, int top) {
            int open = innermost;
            for (int deep = 0; deep < MOST_DEEP && open != NONE && book.ofNode(open, PAST) <= k; deep++) {
                putText("</");
                putLetters(book.ofNode(open, LETTERS_FROM), book.ofNode(open, LETTERS));
                sheet.add('>');
                // What holds the top node is not written, though it may end at the same place.
                open = open == top ? NONE : book.ofNode(open, HOLDER);
            }
            return open;
        }

        private void putLetters(int from, int count) {
            for (int i = 0; i < count; i++) {
                Signs.addCharacter(sheet, book.letterAt(from, count, i));
            }
        }

        private void putTold(int from, int count) {
            for (int i = 0; i < count; i++) {
                int code = book.letterAt(from, count, i);
                if (code == '&') {
                    putText("&amp;");
                } else if (code == '<') {
                    putText("&lt;");
                } else if (code == '>') {
                    putText("&gt;");
                } else if (code == '"') {
                    putText("&quot;");
                } else {
                    Signs.addCharacter(sheet, code);
                }
            }
        }

        private void putText(String text) {
            for (int i = 0; i < text.length(); i++) {
                sheet.add(text.charAt(i));
            }
        }
    }
}
