/** The edges that the document names for the tape: of its terms, and of promises 1 to 4 and 17, sentence by sentence. */
public final class EdgesOfTapeTest {
    private static final int[] FAR_OFF = {Integer.MIN_VALUE, Integer.MIN_VALUE + 1, Integer.MAX_VALUE - 1,
        Integer.MAX_VALUE};

    public static void main(String[] args) {
        lastCall();
        everyByte();
        fullTape();
        newObject();
        twentyBytes();
        numbersAtTheirLimits();
        zerosAtFirst();
        zerosBehindEnd();
        readyBehindRefusedEnd();
        allCounts();
        countsTooSmallOrLarge();
        countsBeyondTheTape();
        emptyTape();
        aboutNothing();
        aboutAnother();
        Desk.close("EdgesOfTapeTest");
    }

    private static void lastCall() {
        Desk.sentence("An object is used for at most 512 calls after it has been made");
        PlainPages pages = new PlainPages();
        Desk.feed(pages, "<a>\"</a>");
        pages.end(8);
        for (int call = 3; call <= 510; call += 2) {
            Desk.due("read(), call " + call, pages.read(), 2);
            Desk.due("write(0), call " + (call + 1), pages.write(0), 13);
        }
        Desk.due("output(12), call 511", pages.output(12), (int) '>');
        Desk.due("output(13), call 512", pages.output(13), -1);
    }

    private static void everyByte() {
        Desk.sentence("THE TAPE has bytes (0 .. 255)");
        for (int sign = 0; sign < 256; sign++) {
            String ahead = " ".repeat(sign % 4) + "<a>";
            String shut = "</a>";
            if (sign >= 0x80 && sign < 0xC0) {
                letterIs(ahead + "\u00c2" + (char) sign + shut, sign);
            } else if (sign >= 0xC2 && sign < 0xE0) {
                letterIs(ahead + (char) sign + "\u0080" + shut, (sign & 0x1F) << 6);
            } else if (sign > 0xE0 && sign < 0xF0) {
                letterIs(ahead + (char) sign + "\u0080\u0080" + shut, (sign & 0x0F) << 12);
            } else if (sign > 0xF0 && sign < 0xF5) {
                letterIs(ahead + (char) sign + "\u0080\u0080\u0080" + shut, (sign & 0x07) << 18);
            } else if (sign >= 0x80 || sign == '&' || sign < 32 && "\t\n\r".indexOf(sign) < 0) {
                Desk.refused(ahead + "|" + (char) sign + shut);
            } else if (sign != '<' && sign != '|') {
                letterIs(ahead + (char) sign + shut, sign);
            }
        }
    }

    private static void letterIs(String bytes, int code) {
        PlainPages pages = Desk.reading(bytes);
        Desk.due("node(1, 3) of " + bytes, pages.node(1, 3), 1);
        Desk.due("letter(1, 0) of " + bytes, pages.letter(1, 0), code);
    }

    private static void fullTape() {
        Desk.sentence("THE TAPE has bytes .. at most 4000");
        PlainPages pages = Desk.reading("<a>" + "x".repeat(3992) + "y</a>");
        Desk.due("about(0)", pages.about(0), 4000);
        Desk.due("letter(1, 3992)", pages.letter(1, 3992), (int) 'y');
        Desk.due("letter(1, 3993)", pages.letter(1, 3993), -1);
        Desk.due("end(1)", pages.end(1), -1);
        Desk.refused("<a>" + "x".repeat(3997) + "|");
        Desk.refused(" ".repeat(4000) + "|");
        Desk.refused(" ".repeat(3999) + "|x");
        Desk.reads(" ".repeat(3996) + "<a/>", 1);
        Desk.reads("<a/>" + " ".repeat(3996), 1);
    }

    private static void newObject() {
        Desk.sentence("Nothing on the tape, nothing read.");
        Desk.due("about(0)", new PlainPages().about(0), 0);
        Desk.due("about(1)", new PlainPages().about(1), 0);
        Desk.due("about(2)", new PlainPages().about(2), 0);
        Desk.due("about(3)", new PlainPages().about(3), 0);
        Desk.due("read()", Desk.read(new PlainPages()), "IllegalArgumentException");
        Desk.due("isPage()", Desk.isPage(new PlainPages()), "IllegalStateException");
        Desk.due("isLinked()", Desk.isLinked(new PlainPages()), "IllegalStateException");
        Desk.due("node(0, 0)", new PlainPages().node(0, 0), -1);
        Desk.due("find()", new PlainPages().find(), -1);
        PlainPages other = Desk.reading("<a/>");
        Desk.due("about(1) of a new one beside one that has read", new PlainPages().about(1), 0);
        Desk.due("about(1) of that one", other.about(1), 1);
    }

    private static void twentyBytes() {
        Desk.sentence("Puts twenty bytes ready, those of a first, the highest of each first.");
        String twenty = "ABCDEFGHIJKLMNOPQRST";
        for (int n = 0; n <= 20; n++) {
            PlainPages pages = Desk.reading("<a id=\"" + twenty.substring(0, n) + "\"/>");
            pages.wipe();
            pages.feed(0x7a7a7a7a, 0x7a7a7a7a, 0x7a7a7a7a, 0x7a7a7a7a, 0x7a7a7a7a);
            pages.feed(0x41424344, 0x45464748, 0x494a4b4c, 0x4d4e4f50, 0x51525354);
            Desk.due("end(" + n + ")", pages.end(n), n);
            Desk.due("find() of the first " + n, pages.find(), 0);
        }
    }

    private static void numbersAtTheirLimits() {
        Desk.sentence("Puts twenty bytes ready (numbers below 0, the smallest and the largest)");
        PlainPages pages = Desk.reading("<a id=\"" + "\u00c3\u00bf".repeat(10) + "\"/>");
        pages.wipe();
        pages.feed(0xC3BFC3BF, 0xC3BFC3BF, 0xC3BFC3BF, 0xC3BFC3BF, 0xC3BFC3BF);
        Desk.due("end(20)", pages.end(20), 20);
        Desk.due("find() of bytes with their highest bit", pages.find(), 0);
        for (int number : new int[] {-1, Integer.MIN_VALUE, Integer.MAX_VALUE}) {
            pages = Desk.with("<a>");
            pages.feed(number, number, number, number, number);
            Desk.due("end(20)", pages.end(20), 23);
            Desk.due("read()", Desk.read(pages), "IllegalArgumentException");
            Desk.due("fault(1) with " + number, pages.fault(1), number == Integer.MAX_VALUE ? 4 : 3);
        }
    }

    private static void zerosAtFirst() {
        Desk.sentence("(They are 0 at first");
        PlainPages pages = new PlainPages();
        Desk.due("end(20)", pages.end(20), 20);
        Desk.due("read()", Desk.read(pages), "IllegalArgumentException");
        Desk.due("fault(1)", pages.fault(1), 0);
    }

    private static void zerosBehindEnd() {
        Desk.sentence("and behind each end() that answers a number.)");
        for (int n = 0; n <= 20; n++) {
            PlainPages pages = Desk.with("<a>");
            pages.feed(0x78787878, 0x78787878, 0x78787878, 0x78787878, 0x78787878);
            Desk.due("end(" + n + ")", pages.end(n), 3 + n);
            Desk.due("end(20)", pages.end(20), 23 + n);
            Desk.due("read()", Desk.read(pages), "IllegalArgumentException");
            Desk.due("fault(1), the first zero", pages.fault(1), 3 + n);
        }
    }

    private static void readyBehindRefusedEnd() {
        Desk.sentence("behind each end() that answers a number (and not behind one that answers NONE)");
        for (int n : new int[] {-1, 21, Integer.MIN_VALUE, Integer.MAX_VALUE}) {
            PlainPages pages = new PlainPages();
            Desk.feed(pages, "<abcdefghijklmnopq/>");
            Desk.due("end(" + n + ")", pages.end(n), -1);
            Desk.due("end(20)", pages.end(20), 20);
            Desk.due("read()", Desk.read(pages), "1");
        }
        PlainPages pages = Desk.with(" ".repeat(3990));
        Desk.feed(pages, "<a/>");
        Desk.due("end(11)", pages.end(11), -1);
        Desk.due("end(4)", pages.end(4), 3994);
        Desk.due("read()", Desk.read(pages), "1");
    }

    private static void allCounts() {
        Desk.sentence("The first n of the bytes that are ready come to the tape: how many it has.");
        PlainPages pages = new PlainPages();
        int sum = 0;
        for (int n = 0; n <= 20; n++) {
            sum += n;
            Desk.due("end(" + n + ")", pages.end(n), sum);
            Desk.due("about(0)", pages.about(0), sum);
        }
    }

    private static void countsTooSmallOrLarge() {
        Desk.sentence("NONE, and nothing comes, if n is not 0 .. 20");
        PlainPages pages = Desk.with("<a");
        Desk.feed(pages, "/>");
        for (int n : new int[] {-1, -2, -20, 21, 22, 256, -4000, 4000, 1 << 16, -(1 << 16)}) {
            Desk.due("end(" + n + ")", pages.end(n), -1);
        }
        for (int n : FAR_OFF) {
            Desk.due("end(" + n + ")", pages.end(n), -1);
        }
        Desk.due("about(0)", pages.about(0), 2);
        Desk.due("end(2)", pages.end(2), 4);
        Desk.due("read()", Desk.read(pages), "1");
    }

    private static void countsBeyondTheTape() {
        Desk.sentence("NONE, and nothing comes, if .. it would have more than 4000.");
        for (int free = 0; free <= 20; free++) {
            PlainPages pages = Desk.with(" ".repeat(4000 - free));
            for (int n = free + 1; n <= 20; n++) {
                Desk.due("end(" + n + ") with room for " + free, pages.end(n), -1);
                Desk.due("about(0)", pages.about(0), 4000 - free);
            }
            Desk.due("end(" + free + ") with room for as many", pages.end(free), 4000);
            Desk.due("end(1) of a full tape", pages.end(1), -1);
            Desk.due("end(0) of a full tape", pages.end(0), 4000);
        }
    }

    private static void emptyTape() {
        Desk.sentence("The tape is empty.");
        PlainPages pages = new PlainPages();
        pages.wipe();
        Desk.due("about(0) of a new one", pages.about(0), 0);
        pages = Desk.with("x".repeat(4000));
        Desk.due("about(0)", pages.about(0), 4000);
        pages.wipe();
        Desk.due("about(0) behind a full tape", pages.about(0), 0);
        pages.wipe();
        Desk.due("about(0) behind an empty one", pages.about(0), 0);
        Desk.due("end(20)", pages.end(20), 20);
        Desk.lay(pages, "<a>" + "y".repeat(3993) + "</a>");
        Desk.due("read() of a tape filled again", Desk.read(pages), "2");
        pages.wipe();
        Desk.due("about(1), what was read stays", pages.about(1), 2);
        Desk.feed(pages, "<b/>");
        pages.wipe();
        Desk.due("end(4), what was ready stays", pages.end(4), 4);
        Desk.due("read()", Desk.read(pages), "1");
        Desk.due("letter(0, 0)", pages.letter(0, 0), (int) 'b');
    }

    private static void aboutNothing() {
        Desk.sentence("nodes (1), elements (2; 0 if nothing is read)");
        PlainPages pages = new PlainPages();
        Desk.due("about(1)", pages.about(1), 0);
        Desk.due("about(2)", pages.about(2), 0);
        Desk.lay(pages, "<a>t<b/></a>");
        Desk.due("about(1) ahead of read()", pages.about(1), 0);
        Desk.due("about(2) ahead of read()", pages.about(2), 0);
        Desk.due("read()", Desk.read(pages), "3");
        Desk.due("about(1)", pages.about(1), 3);
        Desk.due("about(2)", pages.about(2), 2);
        Desk.lay(pages, "<a>t<b/>");
        Desk.due("read()", Desk.read(pages), "IllegalArgumentException");
        Desk.due("about(1) behind a fault", pages.about(1), 0);
        Desk.due("about(2) behind a fault", pages.about(2), 0);
    }

    private static void aboutAnother() {
        Desk.sentence("about: NONE for another what.");
        PlainPages pages = Desk.reading("<a/>");
        pages.write(0);
        for (int what : new int[] {-1, 4, 5, 256, 1 << 16}) {
            Desk.due("about(" + what + ")", pages.about(what), -1);
        }
        for (int what : FAR_OFF) {
            Desk.due("about(" + what + ")", pages.about(what), -1);
        }
        Desk.due("about(0), the least", pages.about(0), 4);
        Desk.due("about(3), the last", pages.about(3), 4);
    }
}
