/** Promises 9 to 12: node, letter, attribute, sign. */
public final class PartsTest {
    private static final String TEXT =
        " <ab c=\"1&lt;" + Desk.utf8("\u20ac") + "\"\n de.f=\"\"> <g/>x&amp;y<h i=\"j\"><k/></h></ab>";

    public static void main(String[] args) {
        PlainPages pages = Desk.reading(TEXT);
        node(pages, 0, 1, -1, 1, 2, 2, -1, 1, 1);
        node(pages, 1, 0, 0, TEXT.indexOf("> <") + 1, 1, 0, 2, -1, 2);
        node(pages, 2, 1, 0, TEXT.indexOf("<g"), 1, 0, 3, -1, 2);
        node(pages, 3, 0, 0, TEXT.indexOf("x&"), 3, 0, 4, -1, 2);
        node(pages, 4, 1, 0, TEXT.indexOf("<h"), 1, 1, -1, 5, 2);
        node(pages, 5, 1, 4, TEXT.indexOf("<k"), 1, 0, -1, -1, 3);
        for (int what = -1; what < 9; what++) {
            Desk.due("node(6, " + what + ")", pages.node(6, what), -1);
            Desk.due("node(-1, " + what + ")", pages.node(-1, what), -1);
        }
        letters(pages);
        attributes(pages);
        signs(pages);
        behindOtherReads();
        behindManyReads();
        Desk.close("PartsTest");
    }

    private static void node(PlainPages pages, int k, int... wants) {
        for (int what = 0; what < wants.length; what++) {
            Desk.due("node(" + k + ", " + what + ")", pages.node(k, what), wants[what]);
        }
        for (int what : new int[] {-1, 8, 9, 10, 11, 12, 13, 14, Integer.MAX_VALUE, Integer.MIN_VALUE}) {
            Desk.due("node(" + k + ", " + what + ")", pages.node(k, what), -1);
        }
    }

    private static void letters(PlainPages pages) {
        String[] wants = {"ab", " ", "g", "x&y", "h", "k"};
        for (int k = 0; k < wants.length; k++) {
            for (int i = 0; i < wants[k].length(); i++) {
                Desk.due("letter(" + k + ", " + i + ")", pages.letter(k, i), (int) wants[k].charAt(i));
            }
            for (int i : new int[] {-1, wants[k].length(), Integer.MIN_VALUE, Integer.MAX_VALUE}) {
                Desk.due("letter(" + k + ", " + i + ")", pages.letter(k, i), -1);
            }
        }
        for (int k : new int[] {-1, 6, 899, 900, Integer.MIN_VALUE, Integer.MAX_VALUE}) {
            Desk.due("letter(" + k + ", 0)", pages.letter(k, 0), -1);
        }
    }

    private static void attributes(PlainPages pages) {
        attribute(pages, 0, 0, 1, 3, TEXT.indexOf("c="));
        attribute(pages, 0, 1, 4, 0, TEXT.indexOf("de.f"));
        attribute(pages, 4, 0, 1, 1, TEXT.indexOf("i="));
        for (int[] none : new int[][] {{0, 2}, {0, -1}, {1, 0}, {2, 0}, {3, 0}, {4, 1}, {4, -1}, {5, 0}, {6, 0}, {-1, 0},
            {0, Integer.MAX_VALUE}, {0, Integer.MIN_VALUE}, {Integer.MAX_VALUE, 0}, {Integer.MIN_VALUE, 0}}) {
            for (int what = 0; what < 3; what++) {
                Desk.due("attribute(" + none[0] + ", " + none[1] + ", " + what + ")",
                    pages.attribute(none[0], none[1], what), -1);
            }
            Desk.due("sign(" + none[0] + ", " + none[1] + ", true, 0)", pages.sign(none[0], none[1], true, 0), -1);
            Desk.due("sign(" + none[0] + ", " + none[1] + ", false, 0)", pages.sign(none[0], none[1], false, 0), -1);
        }
    }

    private static void attribute(PlainPages pages, int k, int j, int... wants) {
        for (int what = 0; what < wants.length; what++) {
            Desk.due("attribute(" + k + ", " + j + ", " + what + ")", pages.attribute(k, j, what), wants[what]);
        }
        for (int what : new int[] {-1, 3, 4, 5, Integer.MAX_VALUE, Integer.MIN_VALUE}) {
            Desk.due("attribute(" + k + ", " + j + ", " + what + ")", pages.attribute(k, j, what), -1);
        }
    }

    private static void signs(PlainPages pages) {
        sign(pages, 0, 0, false, "c");
        sign(pages, 0, 0, true, "1<\u20ac");
        sign(pages, 0, 1, false, "de.f");
        sign(pages, 0, 1, true, "");
        sign(pages, 4, 0, false, "i");
        sign(pages, 4, 0, true, "j");
    }

    private static void sign(PlainPages pages, int k, int j, boolean value, String want) {
        String call = "sign(" + k + ", " + j + ", " + value + ", ";
        for (int i = 0; i < want.length(); i++) {
            Desk.due(call + i + ")", pages.sign(k, j, value, i), (int) want.charAt(i));
        }
        for (int i : new int[] {-1, want.length(), Integer.MIN_VALUE, Integer.MAX_VALUE}) {
            Desk.due(call + i + ")", pages.sign(k, j, value, i), -1);
        }
    }

    private static void behindManyReads() {
        String attributes = " a=\"1\" b=\"2\" c=\"3\" d=\"4\"";
        PlainPages pages = Desk.with("<x>" + ("<y" + attributes + ">t</y>").repeat(20) + "u</x>");
        for (int i = 0; i < 100; i++) {
            Desk.due("read()", Desk.read(pages), "42");
            Desk.due("letter(41, 0)", pages.letter(41, 0), (int) 'u');
            Desk.due("sign(39, 3, true, 0)", pages.sign(39, 3, true, 0), (int) '4');
        }
        Desk.due("about(2)", pages.about(2), 21);
    }

    private static void behindOtherReads() {
        PlainPages pages = Desk.reading(TEXT);
        Desk.lay(pages, "<z><y id=\"w\"/></z>");
        Desk.due("node(0, 3) ahead of read()", pages.node(0, 3), 2);
        Desk.due("read()", Desk.read(pages), "2");
        node(pages, 0, 1, -1, 0, 1, 0, -1, 1, 1);
        node(pages, 1, 1, 0, 3, 1, 1, -1, -1, 2);
        Desk.due("node(2, 0)", pages.node(2, 0), -1);
        attribute(pages, 1, 0, 2, 1, 6);
        Desk.due("attribute(0, 0, 0)", pages.attribute(0, 0, 0), -1);
        Desk.due("letter(0, 0)", pages.letter(0, 0), (int) 'z');
        Desk.lay(pages, "<z><y id=\"w\"/>");
        Desk.due("read()", Desk.read(pages), "IllegalArgumentException");
        Desk.due("node(0, 0)", pages.node(0, 0), -1);
        Desk.due("letter(0, 0)", pages.letter(0, 0), -1);
        Desk.due("attribute(1, 0, 0)", pages.attribute(1, 0, 0), -1);
        Desk.due("sign(1, 0, true, 0)", pages.sign(1, 0, true, 0), -1);
    }
}
