/** Promise 13: find. */
public final class FindTest {
    public static void main(String[] args) {
        String euro = Desk.utf8("\u20ac");
        String high = Desk.utf8("\ud83d\ude00");
        PlainPages pages = Desk.reading("<a id=\"x\">x<b id=\"xy\" c=\"q\"/><b id=\"&#x20ac;\"/><b id=\"" + high
            + "\"/><b id=\"y\"/><b id=\"y\"/><b ID=\"z\" idd=\"z\"/><c id=\"&amp;\"/></a>");
        found(pages, "x", 0);
        found(pages, "xy", 2);
        found(pages, euro, 3);
        found(pages, high, 4);
        found(pages, "y", 5);
        found(pages, "&", 8);
        for (String none : new String[] {"", "z", "q", "X", "xyz", "x ", "&amp;", "&#x20ac;", "id", "\u20ac", "\u00e2",
            "\u00e2\u0082", euro + "x", euro + "\u0080", "\u00c1\u00b8", "\u00ff", "x\0", "\0"}) {
            found(pages, none, -1);
        }
        found(Desk.reading("<a><b id=\"\"/></a>"), "", 1);
        found(Desk.reading("<a><b id=\"\"/></a>"), "\u00ff", -1);
        found(Desk.reading("<a/>"), "", -1);
        withNothingRead();
        Desk.close("FindTest");
    }

    private static void found(PlainPages pages, String bytes, int want) {
        Desk.lay(pages, bytes);
        Desk.due("find() of " + bytes, pages.find(), want);
    }

    private static void withNothingRead() {
        PlainPages pages = Desk.with("x");
        Desk.due("find() ahead of read()", pages.find(), -1);
        Desk.lay(pages, "<a id=\"x\"/>");
        Desk.read(pages);
        Desk.lay(pages, "x");
        Desk.due("find()", pages.find(), 0);
        Desk.due("read()", Desk.read(pages), "IllegalArgumentException");
        Desk.due("find() behind a fault", pages.find(), -1);
    }
}
