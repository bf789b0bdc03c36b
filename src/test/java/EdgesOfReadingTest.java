/** The edges that the document names for reading: of XML, and of promises 5 and 8, sentence by sentence. */
public final class EdgesOfReadingTest {
    private static final String DECLARATION = "<?xml version=\"1.0\" encoding=\"UTF-8\"?>";
    private static final String THIRTY = "abcdefghijklmnopqrstuvwxyz_-.:";
    private static final String WHITES = "\t\n\r ";

    public static void main(String[] args) {
        white();
        letters();
        shortestForms();
        largestCharacter();
        surrogates();
        forbidden();
        endsTooEarly();
        faultAtFirstByte();
        declaration();
        oneElement();
        whiteOneAtLeast();
        nameTwice();
        valueSigns();
        noWhiteThere();
        sameName();
        contentSigns();
        namedReferences();
        decimalDigits();
        hexadecimalDigits();
        charactersThatMayBe();
        wrongReferences();
        nameBegins();
        nameTooLong();
        nameWhereTapeEnds();
        tooDeep();
        tooMany();
        whateverIsBehind();
        emptyTexts();
        readKeepsTape();
        nothingIsReadThen();
        faultWithout();
        faultAnother();
        Desk.close("EdgesOfReadingTest");
    }

    private static void white() {
        Desk.sentence("WHITE: 9, 10, 13, 32.");
        for (int sign = 0; sign <= 33; sign++) {
            boolean isWhite = WHITES.indexOf(sign) >= 0;
            whiteAt("", (char) sign, "<a/>", isWhite);
            whiteAt("<a", (char) sign, "/>", isWhite);
            whiteAt("<a b=\"\"", (char) sign, ">x</a>", isWhite);
            whiteAt("<a>x</a", (char) sign, ">", isWhite);
            whiteAt("<a/>", (char) sign, "", isWhite);
        }
        whiteAt("<a", '\u0085', "/>", false);
        whiteAt("<a", '\u00a0', "/>", false);
    }

    private static void whiteAt(String ahead, char sign, String behind, boolean isWhite) {
        if (isWhite) {
            Desk.reading(ahead + sign + behind);
            Desk.reading(ahead + sign + sign + behind);
        } else {
            Desk.refused(ahead + "|" + sign + behind);
        }
    }

    private static void letters() {
        Desk.sentence("LETTERS: A .. Z, a .. z; DIGITS 0 .. 9.");
        for (int sign = 33; sign < 256; sign++) {
            char c = (char) sign;
            boolean begins = c >= 'A' && c <= 'Z' || c >= 'a' && c <= 'z' || c == '_';
            boolean goesOn = begins || c >= '0' && c <= '9' || "-.:".indexOf(c) >= 0;
            if (begins) {
                Desk.reads("<" + c + "/>", 1);
            } else if (c != '|') {
                Desk.refused("<|" + c + "/>");
            }
            if (goesOn) {
                Desk.reads("<a" + c + "/>", 1);
            } else if (c != '|' && c != '/' && c != '>') {
                Desk.refused("<a|" + c + "/>");
            }
        }
    }

    private static String bytes(int... bytes) {
        StringBuilder text = new StringBuilder();
        for (int b : bytes) {
            text.append((char) b);
        }
        return text.toString();
    }

    private static void character(int code, int... bytes) {
        String told = bytes(bytes);
        PlainPages pages = Desk.reading("<a b=\"" + told + "\">" + told + "</a>");
        Desk.due("letter(1, 0)", pages.letter(1, 0), code);
        Desk.due("node(1, 3)", pages.node(1, 3), 1);
        Desk.due("sign(0, 0, true, 0)", pages.sign(0, 0, true, 0), code);
        Desk.due("attribute(0, 0, 1)", pages.attribute(0, 0, 1), 1);
    }

    private static void noCharacter(int... bytes) {
        String told = bytes(bytes);
        Desk.refused("<a>x|" + told + "</a>");
        Desk.refused("<a b=\"x|" + told + "\"/>");
    }

    private static void shortestForms() {
        Desk.sentence("CHARACTERS are code points in UTF-8 (shortest forms");
        character(0x7F, 0x7F);
        character(0x80, 0xC2, 0x80);
        character(0x7FF, 0xDF, 0xBF);
        character(0x800, 0xE0, 0xA0, 0x80);
        character(0xFFFD, 0xEF, 0xBF, 0xBD);
        character(0x10000, 0xF0, 0x90, 0x80, 0x80);
        noCharacter(0xC1, 0xBF);
        noCharacter(0xC0, 0xA0);
        noCharacter(0xE0, 0x9F, 0xBF);
        noCharacter(0xE0, 0x81, 0x81);
        noCharacter(0xF0, 0x8F, 0xBF, 0xBD);
        noCharacter(0xF0, 0x80, 0x81, 0x81);
        noCharacter(0x80);
        noCharacter(0xBF);
        noCharacter(0xC2, 0x7F);
        noCharacter(0xC2, 0xC0);
        noCharacter(0xE1, 0x80, 0x7F);
        noCharacter(0xF1, 0x80, 0x80, 0xC0);
        noCharacter(0xF8, 0x88, 0x80, 0x80, 0x80);
        noCharacter(0xFC, 0x84, 0x80, 0x80, 0x80, 0x80);
        noCharacter(0xFF);
    }

    private static void largestCharacter() {
        Desk.sentence("at most 1114111");
        character(1114111, 0xF4, 0x8F, 0xBF, 0xBF);
        noCharacter(0xF4, 0x90, 0x80, 0x80);
        noCharacter(0xF5, 0x80, 0x80, 0x80);
        noCharacter(0xF7, 0xBF, 0xBF, 0xBF);
    }

    private static void surrogates() {
        Desk.sentence("none of 55296 .. 57343");
        character(55295, 0xED, 0x9F, 0xBF);
        character(57344, 0xEE, 0x80, 0x80);
        noCharacter(0xED, 0xA0, 0x80);
        noCharacter(0xED, 0xAF, 0xBF);
        noCharacter(0xED, 0xBF, 0xBF);
    }

    private static void forbidden() {
        Desk.sentence("FORBIDDEN: below 32 but 9, 10, 13, or 65534, 65535.");
        for (int code = 0; code < 32; code++) {
            if (WHITES.indexOf(code) >= 0) {
                character(code, code);
                meant("&#" + code + ";", code);
            } else {
                noCharacter(code);
                noReference("&#" + code + ";");
            }
        }
        character(32, 32);
        character(65533, 0xEF, 0xBF, 0xBD);
        noCharacter(0xEF, 0xBF, 0xBE);
        noCharacter(0xEF, 0xBF, 0xBF);
        noReference("&#65534;");
        noReference("&#65535;");
        character(65536, 0xF0, 0x90, 0x80, 0x80);
        character(65536 + 65534, 0xF0, 0x9F, 0xBF, 0xBE);
        character(65536 + 65535, 0xF0, 0x9F, 0xBF, 0xBF);
        Desk.refused("|\0<a/>");
        Desk.refused("<a/>|\0");
        Desk.refused("<|\0a/>");
    }

    private static void endsTooEarly() {
        Desk.sentence("a FAULT of reading (1) is told at .. the tape's length, if it ends too early");
        String whole = " <a b=\"c d\" e=\"\" > f<g/>h<i >j</i >\n</a ";
        for (int length = 0; length <= whole.length(); length++) {
            Desk.refused(whole.substring(0, length) + "|");
        }
        Desk.reads(whole + ">", 7);
    }

    private static void faultAtFirstByte() {
        Desk.sentence("a character that is no UTF-8, or FORBIDDEN: at its first byte");
        noCharacter(0xE2, 0x82, '(');
        noCharacter(0xF0, 0x9F, 0x98, '(');
        noCharacter(0xEF, 0xBF, 0xBF);
        for (String cut : new String[] {bytes(0xC3), bytes(0xE2, 0x82), bytes(0xF0, 0x9F, 0x98)}) {
            Desk.refused("<a>|" + cut);
            Desk.refused("<a b=\"|" + cut);
        }
        Desk.refused("<a>" + bytes(0xC3, 0xA4) + "|" + bytes(0xA4) + "</a>");
    }

    private static void declaration() {
        Desk.sentence("perhaps <?xml .. (these 38 bytes, no other such: else wrong at the ?)");
        Desk.due("its length", DECLARATION.length(), 38);
        Desk.reads("<a/>", 1);
        Desk.reads(DECLARATION + "<a/>", 1);
        Desk.refused(DECLARATION + "<|" + DECLARATION.substring(1) + "<a/>");
        Desk.refused(" <|" + DECLARATION.substring(1) + "<a/>");
        Desk.refused("<a><|" + DECLARATION.substring(1) + "</a>");
        Desk.refused("<a/>|" + DECLARATION);
        for (int i = 2; i < 38; i++) {
            String rest = DECLARATION.substring(i + 1) + "<a/>";
            Desk.refused("<|" + DECLARATION.substring(1, i) + rest);
            Desk.refused("<|" + DECLARATION.substring(1, i) + "~" + rest);
            Desk.refused("<|" + DECLARATION.substring(1, i) + " " + DECLARATION.substring(i) + "<a/>");
        }
        for (int length = 2; length < 38; length++) {
            Desk.refused("<|" + DECLARATION.substring(1, length));
        }
        Desk.refused(DECLARATION + "|");
    }

    private static void oneElement() {
        Desk.sentence("WHITE; one ELEMENT; WHITE; the end.");
        Desk.refused("|");
        Desk.refused(WHITES + "|");
        Desk.reads("<a/>", 1);
        Desk.reads(WHITES + "<a/>" + WHITES, 1);
        Desk.reads(DECLARATION + WHITES + "<a></a>" + WHITES, 1);
        Desk.refused("|x<a/>");
        Desk.refused("<a/>|<a/>");
        Desk.refused("<a></a>" + WHITES + "|x");
        Desk.refused("<a></a>|&#32;");
        Desk.refused("|&#32;<a></a>");
    }

    private static void whiteOneAtLeast() {
        Desk.sentence("any number of: WHITE (one at least), a NAME");
        Desk.reads("<a/>", 1);
        Desk.due("no attribute", Desk.reading("<a/>").node(0, 4), 0);
        Desk.refused("<a b=\"\"|c=\"\"/>");
        Desk.due("one white", Desk.reading("<a b=\"\"\tc=\"\"/>").node(0, 4), 2);
        Desk.due("many whites", Desk.reading("<a" + WHITES.repeat(9) + "b=\"\"" + WHITES + "c=\"\"/>").node(0, 4), 2);
        StringBuilder most = new StringBuilder("<a");
        for (int i = 0; i < 500; i++) {
            most.append(" a").append(i).append("=\"\"");
        }
        PlainPages pages = Desk.reading(most + "/>");
        Desk.due("attributes of one element", pages.node(0, 4), 500);
        Desk.due("the last one's name", pages.sign(0, 499, false, 3), (int) '9');
        Desk.due("behind the last one", pages.attribute(0, 500, 0), -1);
    }

    private static void nameTwice() {
        Desk.sentence("a NAME not had in this element (else at its beginning)");
        Desk.refused("<a b=\"\" |b=\"\"/>");
        Desk.refused("<a b=\"\" c=\"\"   |b=\"\"/>");
        Desk.refused("<a b=\"\" c=\"\" |c");
        Desk.refused("<a b=\"\" |b/>");
        Desk.refused("<a b=\"\" |b =\"\"/>");
        Desk.refused("<a " + THIRTY + "=\"\" |" + THIRTY + "=\"\"/>");
        Desk.reads("<a a=\"\" b=\"\" B=\"\" bb=\"\" b.=\"\"><b b=\"\"/><b b=\"\"/></a>", 3);
    }

    private static void valueSigns() {
        Desk.sentence("\", characters but <, &, \", REFERENCES, \"");
        Desk.due("an empty value", Desk.reading("<a b=\"\"/>").attribute(0, 0, 1), 0);
        Desk.due("a large value", Desk.reading("<a b=\"" + "x".repeat(3990) + "\"/>").attribute(0, 0, 1), 3990);
        Desk.refused("<a b=\"|<\"/>");
        Desk.refused("<a b=\"|&\"/>");
        Desk.refused("<a b=\"\"|\"/>");
        Desk.reads("<a b=\">'/=\t\n\r\"/>", 1);
        Desk.reads("<a b=\"&lt;&amp;&quot;\"/>", 1);
    }

    private static void noWhiteThere() {
        Desk.sentence("(Between < and NAME, / and >, NAME and = and \" no WHITE.)");
        for (char white : WHITES.toCharArray()) {
            Desk.refused("<|" + white + "a/>");
            Desk.refused("<a></|" + white + "a>");
            Desk.refused("<a><|" + white + "/a>");
            Desk.refused("<a/|" + white + ">");
            Desk.refused("<a b|" + white + "=\"\"/>");
            Desk.refused("<a b=|" + white + "\"\"/>");
        }
    }

    private static void sameName() {
        Desk.sentence("</, the same NAME (else at its beginning), perhaps WHITE, >");
        Desk.reads("<ab></ab>", 1);
        Desk.reads("<ab></ab" + WHITES + ">", 1);
        Desk.reads("<" + THIRTY + "></" + THIRTY + ">", 1);
        Desk.refused("<ab></|a>");
        Desk.refused("<ab></|abc>");
        Desk.refused("<ab></|Ab>");
        Desk.refused("<ab></|ac>");
        Desk.refused("<ab></|>");
        Desk.refused("<" + THIRTY + "></|" + THIRTY.substring(0, 29) + ">");
        Desk.refused("<" + THIRTY + "></|" + THIRTY.substring(0, 29) + "_>");
        Desk.refused("<ab><c></|ab></c>");
        Desk.refused("<ab></ab|/>");
        Desk.refused("<ab></ab |b=\"\">");
    }

    private static void contentSigns() {
        Desk.sentence("CONTENT: characters but < and &, references, elements.");
        Desk.reads("<a></a>", 1);
        Desk.reads("<a>\"'>]]></a>", 2);
        Desk.refused("<a><|<</a>");
        Desk.refused("<a>|&</a>");
        Desk.refused("<a><|!----></a>");
        Desk.refused("<a><|!</a>");
        Desk.due("a large text", Desk.reading("<a>" + "x".repeat(3993) + "</a>").node(1, 3), 3993);
    }

    private static void meant(String reference, int code) {
        PlainPages pages = Desk.reading("<a b=\"" + reference + "\">" + reference + "</a>");
        Desk.due(reference + " in a text", pages.letter(1, 0), code);
        Desk.due(reference + " is one character of a text", pages.node(1, 3), 1);
        Desk.due(reference + " in a value", pages.sign(0, 0, true, 0), code);
        Desk.due(reference + " is one character of a value", pages.attribute(0, 0, 1), 1);
    }

    private static void noReference(String wrong) {
        Desk.refused("<a>x|" + wrong + "</a>");
        Desk.refused("<a b=\"x|" + wrong + "\"/>");
        Desk.refused("<a>x|" + wrong);
    }

    private static void namedReferences() {
        Desk.sentence("REFERENCES: &amp; &lt; &gt; &quot; &apos;");
        String[] all = {"&amp;", "&lt;", "&gt;", "&quot;", "&apos;"};
        for (int i = 0; i < all.length; i++) {
            meant(all[i], "&<>\"'".charAt(i));
            noReference(all[i].toUpperCase());
            noReference(all[i].replace(";", "s;"));
            for (int length = 1; length < all[i].length(); length++) {
                noReference(all[i].substring(0, length));
            }
        }
    }

    private static void decimalDigits() {
        Desk.sentence("&# 1 .. 7 digits ;");
        noReference("&#;");
        meant("&#9;", 9);
        meant("&#0000009;", 9);
        meant("&#1114111;", 1114111);
        noReference("&#00000009;");
        noReference("&#00000065;");
        noReference("&#4294967361;");
        noReference("&#" + "0".repeat(3000) + "65;");
        noReference("&#/;");
        noReference("&#:;");
        noReference("&#A;");
        noReference("&#+65;");
        noReference("&#-65;");
        noReference("&#65");
    }

    private static void hexadecimalDigits() {
        Desk.sentence("&#x (&#X) 1 .. 6 digits of hexadecimals ;");
        for (String begin : new String[] {"&#x", "&#X"}) {
            noReference(begin + ";");
            meant(begin + "9;", 9);
            meant(begin + "A;", 10);
            meant(begin + "aF;", 175);
            meant(begin + "fA;", 250);
            meant(begin + "000041;", 65);
            meant(begin + "10FFFF;", 1114111);
            noReference(begin + "0000041;");
            noReference(begin + "100000041;");
            noReference(begin + "0".repeat(3000) + "41;");
            noReference(begin + "G;");
            noReference(begin + "g;");
            noReference(begin + "@;");
            noReference(begin + "`;");
            noReference(begin + "/;");
            noReference(begin + ":;");
            noReference(begin + "41");
        }
    }

    private static void charactersThatMayBe() {
        Desk.sentence("of characters that may be (1 .. 1114111, none of 55296 .. 57343, not FORBIDDEN)");
        noReference("&#0;");
        noReference("&#0000000;");
        noReference("&#x0;");
        noReference("&#1;");
        meant("&#1114111;", 1114111);
        noReference("&#1114112;");
        noReference("&#9999999;");
        meant("&#x10FFFF;", 1114111);
        noReference("&#x110000;");
        noReference("&#xFFFFFF;");
        meant("&#55295;", 55295);
        noReference("&#55296;");
        noReference("&#57343;");
        meant("&#57344;", 57344);
        meant("&#xD7FF;", 55295);
        noReference("&#xD800;");
        noReference("&#xDFFF;");
        meant("&#xE000;", 57344);
        meant("&#65533;", 65533);
        noReference("&#65534;");
        noReference("&#65535;");
        meant("&#65536;", 65536);
    }

    private static void wrongReferences() {
        Desk.sentence("all else that begins with & is wrong at that");
        noReference("&");
        noReference("&&amp;");
        noReference("& amp;");
        noReference("&;");
        noReference("&#");
        noReference("&#x");
        noReference("&nbsp;");
        noReference("&amp\u00c3\u00a4;");
        Desk.refused("<a>&amp;|&</a>");
    }

    private static void nameBegins() {
        Desk.sentence("NAME: a letter or _, then letters, digits, - _ . :");
        for (String good : new String[] {"A", "Z", "a", "z", "_", "A0", "z9", "_-", "__", "a.", "a:"}) {
            Desk.reads("<" + good + " " + good + "=\"\"></" + good + ">", 1);
        }
        for (String wrong : new String[] {"0", "9", "-", ".", ":", "@", "[", "`", "{", "\u00c3\u00a4"}) {
            Desk.refused("<|" + wrong + "a/>");
            Desk.refused("<a |" + wrong + "a=\"\"/>");
            Desk.refused("<a></|" + wrong + "a>");
        }
    }

    private static void nameTooLong() {
        Desk.sentence("at most 30 in all (else at the 31st)");
        Desk.due("characters", THIRTY.length(), 30);
        Desk.due("node(0, 3)", Desk.reading("<" + THIRTY + "/>").node(0, 3), 30);
        Desk.due("attribute(0, 0, 0)", Desk.reading("<a " + THIRTY + "=\"\"/>").attribute(0, 0, 0), 30);
        for (String more : new String[] {"a", "0", "-", "_", ".", ":", "ab", "x".repeat(3900)}) {
            Desk.refused("<" + THIRTY + "|" + more + "/>");
            Desk.refused("<a " + THIRTY + "|" + more + "=\"\"/>");
            Desk.refused("<a></" + THIRTY + "|" + more + ">");
            Desk.refused("<" + THIRTY + "></" + THIRTY + "|" + more + ">");
        }
    }

    private static void nameWhereTapeEnds() {
        Desk.sentence("it goes on as long as such bytes follow, and is looked at then, also where the tape ends");
        Desk.refused("<" + THIRTY + "|");
        Desk.refused("<" + THIRTY + "|a");
        Desk.refused("<a " + THIRTY + "|");
        Desk.refused("<a " + THIRTY + "|a");
        Desk.refused("<a " + THIRTY + "=\"\" " + THIRTY + "|a");
        Desk.refused("<a b=\"\" |b");
        Desk.refused("<a b=\"\" bb|");
        Desk.refused("<a b=\"\" B|");
        Desk.refused("<ab></|a");
        Desk.refused("<ab></|b");
        Desk.refused("<ab></ab|");
        Desk.refused("<ab></|abc");
        Desk.refused("<a></" + THIRTY + "|a");
        Desk.refused("<a></|" + THIRTY);
        Desk.refused("<" + THIRTY + "|a!");
    }

    private static void tooDeep() {
        Desk.sentence("Elements are at most 40 deep (the whole's is 1 deep)");
        String open = "<a>".repeat(39);
        String shut = "</a>".repeat(39);
        PlainPages pages = Desk.reading(open + "<a>t</a><a/>" + shut);
        Desk.due("node(0, 7)", pages.node(0, 7), 1);
        Desk.due("node(39, 7)", pages.node(39, 7), 40);
        Desk.due("node(40, 7) of a text in the deepest", pages.node(40, 7), 41);
        Desk.due("node(41, 7)", pages.node(41, 7), 40);
        Desk.refused(open + "<a>|<a/></a>" + shut);
        Desk.refused(open + "<a>t|<a>");
        Desk.refused(open + "<a/><a>|<b");
        Desk.refused(open + "<a>" + "|<a>".repeat(1) + "<a>".repeat(500));
    }

    private static void tooMany() {
        Desk.sentence("and at most 300");
        String many = "<a>" + "<b/>".repeat(298);
        PlainPages pages = Desk.reading(many + "<b/></a>");
        Desk.due("about(2)", pages.about(2), 300);
        Desk.due("node(299, 0)", pages.node(299, 0), 1);
        Desk.refused(many + "<b/>|<b/></a>");
        Desk.refused(many + "<b/>t|<b/></a>");
        Desk.refused(many + "<b>|<b/></b></a>");
        Desk.refused(many + "<b/></a>|<b/>");
        pages = Desk.reading("<a>" + "t<b>t</b>".repeat(299) + "t</a>");
        Desk.due("about(1) with all texts", pages.about(1), 899);
        Desk.due("about(2) with all texts", pages.about(2), 300);
        Desk.due("letter(898, 0)", pages.letter(898, 0), (int) 't');
        Desk.due("node(899, 0)", pages.node(899, 0), -1);
    }

    private static void whateverIsBehind() {
        Desk.sentence("(else at the <, whatever but a / is behind it, or nothing)");
        String deep = "<a>".repeat(40);
        String many = "<a>" + "<b/>".repeat(299);
        for (String full : new String[] {deep, many}) {
            for (String behind : new String[] {"", "b", "?", "!", " ", "<", "&", "\0", "\u00ff", ">", "1"}) {
                Desk.refused(full + "|<" + behind);
                Desk.refused(full + "t|<" + behind);
            }
            Desk.refused(full + "</|");
            Desk.refused(full + "</|b>");
            Desk.refused(full + "</| a>");
            Desk.refused(full + "</a|");
        }
        Desk.reads(deep + "</a>".repeat(40), 40);
        Desk.reads(many + "</a>", 300);
    }

    private static void emptyTexts() {
        Desk.sentence("TEXTS, each all that stands between two of <..> (empty ones are none)");
        Desk.reads("<a></a>", 1);
        Desk.reads("<a><b/></a>", 2);
        Desk.reads("<a><b></b><b></b></a>", 3);
        Desk.reads("<a> <b> </b> <b> </b> </a>", 8);
        PlainPages pages = Desk.reading("<a>x&amp;&#9; \n" + bytes(0xC3, 0xA4) + "</a>");
        Desk.due("about(1), one text", pages.about(1), 2);
        Desk.due("node(1, 3)", pages.node(1, 3), 6);
        Desk.reads(" <a/> ", 1);
    }

    private static void readKeepsTape() {
        Desk.sentence("The tape is read (it stays): how many nodes.");
        PlainPages pages = Desk.with("<a>t</a>");
        Desk.due("read()", pages.read(), 2);
        Desk.due("about(0)", pages.about(0), 8);
        Desk.due("read() again", pages.read(), 2);
        Desk.feed(pages, "x");
        Desk.due("end(1)", pages.end(1), 9);
        Desk.due("read()", Desk.read(pages), "IllegalArgumentException");
        Desk.due("fault(1)", pages.fault(1), 8);
        Desk.due("about(0) behind a fault", pages.about(0), 9);
    }

    private static void nothingIsReadThen() {
        Desk.sentence("IllegalArgumentException: FAULT 1 (nothing is read then).");
        PlainPages pages = Desk.reading("<a id=\"i\">t</a>");
        Desk.lay(pages, "");
        Desk.due("read() of an empty tape", Desk.read(pages), "IllegalArgumentException");
        Desk.due("fault(0)", pages.fault(0), 1);
        Desk.due("fault(1)", pages.fault(1), 0);
        Desk.due("about(1)", pages.about(1), 0);
        Desk.due("about(2)", pages.about(2), 0);
        Desk.due("node(0, 0)", pages.node(0, 0), -1);
        Desk.due("letter(1, 0)", pages.letter(1, 0), -1);
        Desk.due("attribute(0, 0, 0)", pages.attribute(0, 0, 0), -1);
        Desk.due("sign(0, 0, true, 0)", pages.sign(0, 0, true, 0), -1);
        Desk.lay(pages, "i");
        Desk.due("find()", pages.find(), -1);
        Desk.due("isPage()", Desk.isPage(pages), "IllegalStateException");
        Desk.due("isLinked()", Desk.isLinked(pages), "IllegalStateException");
        Desk.due("plain(0)", Desk.plain(pages, 0), "IndexOutOfBoundsException");
        Desk.due("write(0)", Desk.written(pages, 0), "IndexOutOfBoundsException");
        Desk.lay(pages, "<a/>");
        Desk.due("read() behind a fault", Desk.read(pages), "1");
        Desk.due("fault(0)", pages.fault(0), 0);
        Desk.due("fault(1)", pages.fault(1), -1);
    }

    private static void faultWithout() {
        Desk.sentence("the FAULT, 0 without (what = 0), its place (1; NONE without, and ahead of any)");
        PlainPages pages = new PlainPages();
        Desk.due("fault(0) ahead of any", pages.fault(0), 0);
        Desk.due("fault(1) ahead of any", pages.fault(1), -1);
        Desk.due("isPage()", Desk.isPage(pages), "IllegalStateException");
        Desk.due("isLinked()", Desk.isLinked(pages), "IllegalStateException");
        Desk.due("fault(0) behind refused calls alone", pages.fault(0), 0);
        Desk.due("fault(1) behind refused calls alone", pages.fault(1), -1);
        Desk.lay(pages, "<a>");
        Desk.due("fault(0) ahead of read()", pages.fault(0), 0);
        Desk.due("read()", Desk.read(pages), "IllegalArgumentException");
        Desk.due("fault(0)", pages.fault(0), 1);
        Desk.due("fault(1)", pages.fault(1), 3);
        Desk.lay(pages, "<html><head><title/></head><body/></html>");
        Desk.due("read()", Desk.read(pages), "4");
        Desk.due("fault(0) without", pages.fault(0), 0);
        Desk.due("fault(1) without", pages.fault(1), -1);
        Desk.due("isPage()", Desk.isPage(pages), "true");
        Desk.due("fault(0) of a page", pages.fault(0), 0);
        Desk.due("fault(1) of a page", pages.fault(1), -1);
        Desk.due("isLinked()", Desk.isLinked(pages), "true");
        Desk.due("fault(0) of links", pages.fault(0), 0);
        Desk.due("fault(1) of links", pages.fault(1), -1);
    }

    private static void faultAnother() {
        Desk.sentence("fault: NONE for another what.");
        PlainPages pages = Desk.with("<a>");
        Desk.due("read()", Desk.read(pages), "IllegalArgumentException");
        for (int what : new int[] {-1, 2, 3, 256, 1 << 16, Integer.MIN_VALUE, Integer.MIN_VALUE + 1, Integer.MAX_VALUE}) {
            Desk.due("fault(" + what + ")", pages.fault(what), -1);
        }
    }
}
