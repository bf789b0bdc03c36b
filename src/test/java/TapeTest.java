/** Promises 2 to 4 and 17: feed, end, wipe, about. */
public final class TapeTest {
    public static void main(String[] args) {
        orderOfBytes();
        wrongCounts();
        readyBytesGoAway();
        fullTape();
        wipeLeavesTheRest();
        aboutTells();
        Desk.close("TapeTest");
    }

    private static void orderOfBytes() {
        PlainPages pages = Desk.reading("<x id=\"abcdefghijklmnopqrst\"/>");
        pages.wipe();
        pages.feed(0x61626364, 0x65666768, 0x696a6b6c, 0x6d6e6f70, 0x71727374);
        Desk.due("end(20)", pages.end(20), 20);
        Desk.due("find() of all twenty", pages.find(), 0);
        String highest = Desk.utf8("\u00ff\u20ac");
        pages = Desk.reading("<x id=\"" + highest + "\"/>");
        Desk.lay(pages, highest);
        Desk.due("find() of bytes above 127", pages.find(), 0);
    }

    private static void wrongCounts() {
        PlainPages pages = Desk.reading("<x id=\"ab\"/>");
        pages.wipe();
        Desk.feed(pages, "ab");
        for (int n : new int[] {-1, 21, Integer.MIN_VALUE, Integer.MAX_VALUE}) {
            Desk.due("end(" + n + ")", pages.end(n), -1);
            Desk.due("about(0)", pages.about(0), 0);
        }
        Desk.due("end(2) of bytes that stayed ready", pages.end(2), 2);
        Desk.due("find()", pages.find(), 0);
    }

    private static void readyBytesGoAway() {
        PlainPages pages = Desk.reading("<x id=\"ab\"/>");
        pages.wipe();
        Desk.feed(pages, "ab");
        Desk.due("end(0)", pages.end(0), 0);
        Desk.due("end(2)", pages.end(2), 2);
        Desk.due("find() of zeros", pages.find(), -1);
        Desk.due("read() of zeros", Desk.read(pages), "IllegalArgumentException");
        pages = Desk.reading("<x id=\"abcabc\"/>");
        pages.wipe();
        Desk.feed(pages, "abc");
        Desk.due("end(3)", pages.end(3), 3);
        Desk.due("end(3) of zeros", pages.end(3), 6);
        Desk.due("find()", pages.find(), -1);
        for (int i = 0; i < 3; i++) {
            pages = Desk.reading("<x id=\"" + "abc".substring(0, i + 1).repeat(2) + "\"/>");
            pages.wipe();
            Desk.feed(pages, "abc");
            pages.end(i + 1);
            pages.end(i + 1);
            Desk.due("find()", pages.find(), -1);
        }
        pages = Desk.reading("<x id=\"ab\"/>");
        pages.wipe();
        Desk.feed(pages, "zz");
        Desk.feed(pages, "a");
        Desk.due("end(1)", pages.end(1), 1);
        Desk.feed(pages, "b");
        pages.wipe();
        Desk.due("end(1) of a byte that was ready ahead of wipe()", pages.end(1), 1);
        pages.wipe();
        Desk.lay(pages, "a");
        Desk.feed(pages, "b");
        Desk.due("end(1)", pages.end(1), 2);
        Desk.due("find()", pages.find(), 0);
    }

    private static void fullTape() {
        PlainPages pages = new PlainPages();
        for (int i = 1; i <= 199; i++) {
            Desk.due("end(20)", pages.end(20), 20 * i);
        }
        Desk.due("end(1)", pages.end(1), 3981);
        Desk.feed(pages, "<");
        Desk.due("end(20) to 4001", pages.end(20), -1);
        Desk.due("about(0)", pages.about(0), 3981);
        Desk.due("end(19) to 4000", pages.end(19), 4000);
        Desk.due("end(1)", pages.end(1), -1);
        Desk.due("end(0)", pages.end(0), 4000);
        pages.wipe();
        Desk.due("end(20)", pages.end(20), 20);
    }

    private static void wipeLeavesTheRest() {
        PlainPages pages = Desk.reading("<x>t</x>");
        Desk.due("written", Desk.written(pages, 0), "<x>t</x>");
        pages.wipe();
        Desk.due("about(0)", pages.about(0), 0);
        Desk.due("about(1)", pages.about(1), 2);
        Desk.due("about(3)", pages.about(3), 8);
        Desk.due("letter(1, 0)", pages.letter(1, 0), (int) 't');
        Desk.due("isPage()", Desk.isPage(pages), "false");
        Desk.lay(pages, "0000000000");
        Desk.due("letter(1, 0)", pages.letter(1, 0), (int) 't');
        Desk.due("plain(0)", Desk.plain(pages, 0), "t");
    }

    private static void aboutTells() {
        PlainPages pages = Desk.reading("<x>t<y/>t</x>");
        Desk.due("about(0)", pages.about(0), 13);
        Desk.due("about(1)", pages.about(1), 4);
        Desk.due("about(2)", pages.about(2), 2);
        Desk.due("about(3)", pages.about(3), 0);
        Desk.plain(pages, 0);
        Desk.due("about(3)", pages.about(3), 2);
        Desk.due("about(-1)", pages.about(-1), -1);
        Desk.due("about(4)", pages.about(4), -1);
        Desk.due("about(MIN)", pages.about(Integer.MIN_VALUE), -1);
        Desk.lay(pages, "<");
        Desk.due("about(2) ahead of read()", pages.about(2), 2);
        Desk.due("read()", Desk.read(pages), "IllegalArgumentException");
        Desk.due("about(1) behind it", pages.about(1), 0);
        Desk.due("about(2) behind it", pages.about(2), 0);
        Desk.due("about(3) behind it", pages.about(3), 2);
    }
}
