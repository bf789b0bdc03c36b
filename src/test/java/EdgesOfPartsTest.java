/** The edges that the document names for parts: of promises 9 to 13, sentence by sentence. */
public final class EdgesOfPartsTest {
    private static final int[] FAR_OFF = {Integer.MIN_VALUE, Integer.MIN_VALUE + 1, -(1 << 16), 1 << 16, 1 << 28, 1 << 30,
        Integer.MAX_VALUE - 1, Integer.MAX_VALUE};
    private static final String SMALL = "<a b=\"cd\" ef=\"\">gh<i/></a>";

    public static void main(String[] args) {
        numberedFromNought();
        holderOfTheWhole();
        whereTheyBegin();
        behindAndFirst();
        howDeep();
        attributesOfNodes();
        noSuchNode();
        noSuchLetter();
        noSuchAttribute();
        noSuchSign();
        mostAttributes();
        firstWithId();
        noneWithId();
        tapeIsNone();
        Desk.close("EdgesOfPartsTest");
    }

    private static void numberedFromNought() {
        Desk.sentence("Bytes, nodes, attributes are numbered from 0 on.");
        PlainPages pages = Desk.reading(SMALL);
        Desk.due("node(0, 2), the first byte", pages.node(0, 2), 0);
        Desk.due("node(0, 0), the first node", pages.node(0, 0), 1);
        Desk.due("node(-1, 0), ahead of it", pages.node(-1, 0), -1);
        Desk.due("attribute(0, 0, 0), the first attribute", pages.attribute(0, 0, 0), 1);
        Desk.due("attribute(0, -1, 0), ahead of it", pages.attribute(0, -1, 0), -1);
        Desk.due("letter(0, 0), the first letter", pages.letter(0, 0), (int) 'a');
        Desk.due("sign(0, 0, true, 0), the first sign", pages.sign(0, 0, true, 0), (int) 'c');
        pages.write(0);
        Desk.due("output(0), the first byte", pages.output(0), (int) '<');
        Desk.due("output(-1), ahead of it", pages.output(-1), -1);
    }

    private static void holderOfTheWhole() {
        Desk.sentence("what holds it (1; NONE of the whole's)");
        PlainPages pages = Desk.reading("<a><b>t</b>t</a>");
        Desk.due("node(0, 1)", pages.node(0, 1), -1);
        Desk.due("node(1, 1)", pages.node(1, 1), 0);
        Desk.due("node(2, 1)", pages.node(2, 1), 1);
        Desk.due("node(3, 1)", pages.node(3, 1), 0);
    }

    private static void whereTheyBegin() {
        Desk.sentence("where it begins (2)");
        Desk.due("at the tape's beginning", Desk.reading("<a/>").node(0, 2), 0);
        Desk.due("behind white", Desk.reading(" \n<a/>").node(0, 2), 2);
        Desk.due("at the tape's end", Desk.reading(" ".repeat(3996) + "<a/>").node(0, 2), 3996);
        Desk.due("of a text that begins with a reference", Desk.reading("<a>&#65;</a>").node(1, 2), 3);
        Desk.due("of an attribute", Desk.reading("<a \n b=\"\"/>").attribute(0, 0, 2), 5);
    }

    private static void behindAndFirst() {
        Desk.sentence("what is behind it in what holds it (5), its first node (6; NONE without)");
        PlainPages pages = Desk.reading("<a><b></b><c>t</c>t<d/></a>");
        int[] behind = {-1, 2, 4, -1, 5, -1};
        int[] first = {1, -1, 3, -1, -1, -1};
        for (int k = 0; k < 6; k++) {
            Desk.due("node(" + k + ", 5)", pages.node(k, 5), behind[k]);
            Desk.due("node(" + k + ", 6)", pages.node(k, 6), first[k]);
        }
    }

    private static void howDeep() {
        Desk.sentence("how deep it is (7; the whole's 1)");
        PlainPages pages = Desk.reading("<a>t<b>t<c/></b></a>");
        int[] deep = {1, 2, 2, 3, 3};
        for (int k = 0; k < deep.length; k++) {
            Desk.due("node(" + k + ", 7)", pages.node(k, 7), deep[k]);
        }
    }

    private static void attributesOfNodes() {
        Desk.sentence("how many characters its text has, or its name (3); how many attributes (4)");
        PlainPages pages = Desk.reading(SMALL);
        int[] characters = {1, 2, 1};
        int[] attributes = {2, 0, 0};
        for (int k = 0; k < 3; k++) {
            Desk.due("node(" + k + ", 3)", pages.node(k, 3), characters[k]);
            Desk.due("node(" + k + ", 4)", pages.node(k, 4), attributes[k]);
        }
    }

    private static void noSuchNode() {
        Desk.sentence("node: NONE if there is none such, or for another what.");
        PlainPages pages = Desk.reading(SMALL);
        for (int what = 0; what < 8; what++) {
            for (int k : new int[] {-1, -2, 3, 4, 300, 899, 900}) {
                Desk.due("node(" + k + ", " + what + ")", pages.node(k, what), -1);
            }
            for (int k : FAR_OFF) {
                Desk.due("node(" + k + ", " + what + ")", pages.node(k, what), -1);
            }
            Desk.due("node(0, " + what + ") with nothing read", new PlainPages().node(0, what), -1);
        }
        for (int k = 0; k < 3; k++) {
            for (int what : new int[] {-1, -2, 8, 9, 10, 11, 12, 13, 14, 15}) {
                Desk.due("node(" + k + ", " + what + ")", pages.node(k, what), -1);
            }
            for (int what : FAR_OFF) {
                Desk.due("node(" + k + ", " + what + ")", pages.node(k, what), -1);
            }
        }
    }

    private static void noSuchLetter() {
        Desk.sentence("Character i of a node's text, or name; NONE if there is none.");
        PlainPages pages = Desk.reading(SMALL);
        String[] texts = {"a", "gh", "i"};
        for (int k = 0; k < texts.length; k++) {
            int count = texts[k].length();
            Desk.due("letter(" + k + ", last)", pages.letter(k, count - 1), (int) texts[k].charAt(count - 1));
            Desk.due("letter(" + k + ", behind the last)", pages.letter(k, count), -1);
            Desk.due("letter(" + k + ", -1)", pages.letter(k, -1), -1);
            for (int i : FAR_OFF) {
                Desk.due("letter(" + k + ", " + i + ")", pages.letter(k, i), -1);
                Desk.due("letter(" + i + ", 0)", pages.letter(i, 0), -1);
            }
        }
        Desk.due("letter(-1, 0)", pages.letter(-1, 0), -1);
        Desk.due("letter(3, 0)", pages.letter(3, 0), -1);
        Desk.due("letter(-1, -1)", pages.letter(-1, -1), -1);
        Desk.due("letter(0, 0) with nothing read", new PlainPages().letter(0, 0), -1);
    }

    private static void noSuchAttribute() {
        Desk.sentence("attribute: NONE if there is none such, or for another what.");
        PlainPages pages = Desk.reading(SMALL);
        int[][] wants = {{1, 2, 3}, {2, 0, 10}};
        for (int what = 0; what < 3; what++) {
            Desk.due("attribute(0, 0, " + what + ")", pages.attribute(0, 0, what), wants[0][what]);
            Desk.due("attribute(0, 1, " + what + ")", pages.attribute(0, 1, what), wants[1][what]);
            Desk.due("attribute(0, 2, " + what + ")", pages.attribute(0, 2, what), -1);
            Desk.due("attribute(0, -1, " + what + ")", pages.attribute(0, -1, what), -1);
            for (int k : new int[] {-1, 1, 2, 3}) {
                Desk.due("attribute(" + k + ", 0, " + what + ")", pages.attribute(k, 0, what), -1);
            }
            for (int far : FAR_OFF) {
                Desk.due("attribute(" + far + ", 0, " + what + ")", pages.attribute(far, 0, what), -1);
                Desk.due("attribute(0, " + far + ", " + what + ")", pages.attribute(0, far, what), -1);
                Desk.due("attribute(0, 0, " + far + ")", pages.attribute(0, 0, far), -1);
            }
            Desk.due("attribute(0, 0, " + what + ") with nothing read", new PlainPages().attribute(0, 0, what), -1);
        }
        for (int what : new int[] {-1, 3, 4, 5, 6}) {
            Desk.due("attribute(0, 0, " + what + ")", pages.attribute(0, 0, what), -1);
            Desk.due("attribute(0, 1, " + what + ")", pages.attribute(0, 1, what), -1);
        }
    }

    private static void noSuchSign() {
        Desk.sentence("Character i of an attribute's name, or value; NONE if there is none.");
        PlainPages pages = Desk.reading(SMALL);
        signs(pages, 0, false, "b");
        signs(pages, 0, true, "cd");
        signs(pages, 1, false, "ef");
        signs(pages, 1, true, "");
        for (boolean value : new boolean[] {false, true}) {
            for (int[] none : new int[][] {{0, -1}, {0, 2}, {1, 0}, {2, 0}, {3, 0}, {-1, 0}, {-1, -1}}) {
                Desk.due("sign(" + none[0] + ", " + none[1] + ", " + value + ", 0)",
                    pages.sign(none[0], none[1], value, 0), -1);
            }
            for (int far : FAR_OFF) {
                Desk.due("sign(" + far + ", 0, " + value + ", 0)", pages.sign(far, 0, value, 0), -1);
                Desk.due("sign(0, " + far + ", " + value + ", 0)", pages.sign(0, far, value, 0), -1);
            }
            Desk.due("sign(0, 0, " + value + ", 0) with nothing read", new PlainPages().sign(0, 0, value, 0), -1);
        }
    }

    private static void signs(PlainPages pages, int j, boolean value, String want) {
        String call = "sign(0, " + j + ", " + value + ", ";
        for (int i = 0; i < want.length(); i++) {
            Desk.due(call + i + ")", pages.sign(0, j, value, i), (int) want.charAt(i));
        }
        Desk.due(call + want.length() + ")", pages.sign(0, j, value, want.length()), -1);
        Desk.due(call + "-1)", pages.sign(0, j, value, -1), -1);
        for (int far : FAR_OFF) {
            Desk.due(call + far + ")", pages.sign(0, j, value, far), -1);
        }
    }

    /** As many attributes as a tape has room for: none is lost, and none is taken for another's. */
    private static void mostAttributes() {
        Desk.sentence("Of attribute j of node k (of a full tape)");
        StringBuilder each = new StringBuilder();
        for (char name : "ABCDEFGHIJKLMNOPQRSTUVWXYZ_abcdefghijklmnopqrstuvwxyz".toCharArray()) {
            each.append(' ').append(name).append("=\"\"");
        }
        String bytes = "<a" + each + ">" + ("<b" + each + "/>").repeat(13) + "<b" + each.substring(0, 200) + "/></a>";
        PlainPages pages = Desk.reading(bytes);
        Desk.due("about(1)", pages.about(1), 15);
        for (int k = 0; k < 15; k++) {
            int count = k < 14 ? 53 : 40;
            Desk.due("node(" + k + ", 4)", pages.node(k, 4), count);
            Desk.due("sign(" + k + ", 0, false, 0)", pages.sign(k, 0, false, 0), (int) 'A');
            Desk.due("sign(" + k + ", last, false, 0)", pages.sign(k, count - 1, false, 0), k < 14 ? (int) 'z' : (int) 'm');
            Desk.due("attribute(" + k + ", last, 1)", pages.attribute(k, count - 1, 1), 0);
            Desk.due("attribute(" + k + ", behind the last, 0)", pages.attribute(k, count, 0), -1);
        }
    }

    private static void found(PlainPages pages, String bytes, int want) {
        Desk.lay(pages, bytes);
        Desk.due("find() of " + bytes, pages.find(), want);
    }

    private static void firstWithId() {
        Desk.sentence("The first element whose id the tape is, as UTF-8");
        String largest = Desk.utf8("\udbff\udfff");
        PlainPages pages = Desk.reading("<a><b id=\"i\"/>i<b id=\"i\"/><b id=\"ij\"/><b id=\"&#1114111;\"/><b id=\"\"/></a>");
        found(pages, "i", 1);
        found(pages, "ij", 4);
        found(pages, largest, 5);
        found(Desk.reading("<a id=\"i\"/>"), "i", 0);
        String large = "x".repeat(3989);
        found(Desk.reading("<a id=\"" + large + "\"/>"), large, 0);
        found(Desk.reading("<a id=\"" + large + "\"/>"), large + "x", -1);
        found(Desk.reading("<a id=\"" + large + "\"/>"), large.substring(1), -1);
        StringBuilder last = new StringBuilder("<a>");
        for (int i = 0; i < 299; i++) {
            last.append(i == 298 ? "<b id=\"i\"/>" : "<b/>");
        }
        found(Desk.reading(last + "</a>"), "i", 299);
    }

    private static void noneWithId() {
        Desk.sentence("find: NONE if there is none");
        PlainPages pages = Desk.reading("<a id=\"ij\" ID=\"k\" idd=\"l\" b=\"m\">n</a>");
        for (String none : new String[] {"i", "j", "ijk", " ij", "ij ", "IJ", "k", "l", "m", "n", "id", "a", "ij\0"}) {
            found(pages, none, -1);
        }
        found(Desk.with("x"), "x", -1);
        found(Desk.reading("<a/>"), "", -1);
        found(Desk.reading("<a id=\"x\"/>"), "", -1);
        found(Desk.reading("<a id=\"\"/>"), "", 0);
    }

    private static void tapeIsNone() {
        Desk.sentence("find: NONE if .. (or the tape is none)");
        PlainPages pages = Desk.reading("<a id=\"&#228;\"><b id=\"\"/><c id=\"&#8364;\"/><d id=\"/\"/></a>");
        found(pages, "\u00c3\u00a4", 0);
        for (String none : new String[] {"\u00c3", "\u00e4", "\u00a4", "\u00c3\u00a4\u00a4", "\u00e2\u0082", "\u00c0\u00af",
            "\u00e0\u0080\u00af", "\u00e0\u0083\u00a4", "\u00ed\u00a0\u0080", "\u00f4\u0090\u0080\u0080", "\u00ff", "\u0080"}) {
            found(pages, none, -1);
        }
    }
}
