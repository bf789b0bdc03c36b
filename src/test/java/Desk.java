import java.nio.charset.StandardCharsets;

/** What the tests share: texts laid on tapes, answers compared and counted. */
final class Desk {
    static final char MARK = '|';
    private static int passed = 0;
    private static int failed = 0;
    private static String sentence = "";
    private static int passedAtSentence = 0;

    private Desk() {
    }

    static void due(String call, Object got, Object want) {
        if (got.equals(want)) {
            passed++;
            return;
        }
        failed++;
        System.out.println(sentence + call + " answered " + got + ", due is " + want);
    }

    /** What is tested from here on is a sentence of the document; one without a test is a failure. */
    static void sentence(String words) {
        endSentence();
        sentence = "[" + words + "] ";
        passedAtSentence = passed;
    }

    private static void endSentence() {
        if (!sentence.isEmpty() && passed == passedAtSentence) {
            failed++;
            System.out.println(sentence + "has no test that passes");
        }
    }

    /** The last call of a test's main. */
    static void close(String test) {
        endSentence();
        System.out.println(test);
        System.out.println(passed + " passed, " + failed + " failed");
        if (failed != 0 || passed == 0) {
            System.exit(1);
        }
    }

    /** A text whose characters are the bytes of another one's UTF-8. */
    static String utf8(String text) {
        return new String(text.getBytes(StandardCharsets.UTF_8), StandardCharsets.ISO_8859_1);
    }

    static PlainPages with(String bytes) {
        PlainPages pages = new PlainPages();
        lay(pages, bytes);
        return pages;
    }

    /** Each character of the text is a byte. */
    static void lay(PlainPages pages, String bytes) {
        pages.wipe();
        for (int from = 0; from < bytes.length(); from += 20) {
            int count = Math.min(20, bytes.length() - from);
            feed(pages, bytes.substring(from, from + count));
            due("end(" + count + ")", pages.end(count), from + count);
        }
    }

    static void feed(PlainPages pages, String bytes) {
        int[] five = five(bytes);
        pages.feed(five[0], five[1], five[2], five[3], five[4]);
    }

    /** The numbers that feed() takes for up to twenty bytes. */
    static int[] five(String bytes) {
        int[] five = new int[5];
        for (int i = 0; i < bytes.length(); i++) {
            five[i / 4] |= (bytes.charAt(i) & 255) << (24 - 8 * (i % 4));
        }
        return five;
    }

    /** How many nodes were read, or the exception's name. */
    static String read(PlainPages pages) {
        try {
            return String.valueOf(pages.read());
        } catch (RuntimeException e) {
            return e.getClass().getSimpleName();
        }
    }

    static String isPage(PlainPages pages) {
        try {
            return String.valueOf(pages.isPage());
        } catch (RuntimeException e) {
            return e.getClass().getSimpleName();
        }
    }

    static String isLinked(PlainPages pages) {
        try {
            return String.valueOf(pages.isLinked());
        } catch (RuntimeException e) {
            return e.getClass().getSimpleName();
        }
    }

    static String plain(PlainPages pages, int k) {
        try {
            return told(pages, pages.plain(k));
        } catch (RuntimeException e) {
            return e.getClass().getSimpleName();
        }
    }

    static String written(PlainPages pages, int k) {
        try {
            return told(pages, pages.write(k));
        } catch (RuntimeException e) {
            return e.getClass().getSimpleName();
        }
    }

    private static String told(PlainPages pages, int bytes) {
        due("about(3)", pages.about(3), bytes);
        return output(pages);
    }

    static String output(PlainPages pages) {
        StringBuilder text = new StringBuilder();
        for (int i = 0; i < pages.about(3); i++) {
            text.append((char) pages.output(i));
        }
        return text.toString();
    }

    /** A new object with the text on its tape, read. */
    static PlainPages reading(String bytes) {
        PlainPages pages = with(bytes);
        String answer = read(pages);
        due("read() of " + bytes + " goes well", !answer.startsWith("Illegal"), true);
        due("fault(0) of " + bytes, pages.fault(0), 0);
        due("fault(1) of " + bytes, pages.fault(1), PlainPages.NONE);
        return pages;
    }

    static void reads(String bytes, int nodes) {
        due("read() of " + bytes, reading(bytes).about(1), nodes);
    }

    /** The text is wrong where the mark stands, which is not laid on the tape. */
    static void refused(String marked) {
        String bytes = without(marked);
        PlainPages pages = with("<x/>");
        read(pages);
        lay(pages, bytes);
        due("read() of " + bytes, read(pages), "IllegalArgumentException");
        due("fault(0) of " + bytes, pages.fault(0), 1);
        due("fault(1) of " + bytes, pages.fault(1), marked.indexOf(MARK));
        due("about(0) of " + bytes, pages.about(0), bytes.length());
        due("about(1) of " + bytes, pages.about(1), 0);
        due("about(2) of " + bytes, pages.about(2), 0);
        due("isPage() of " + bytes, isPage(pages), "IllegalStateException");
    }

    static void page(String bytes) {
        PlainPages pages = reading(bytes);
        due("isPage() of " + bytes, isPage(pages), "true");
        due("fault(0) of " + bytes, pages.fault(0), 0);
        due("fault(1) of " + bytes, pages.fault(1), PlainPages.NONE);
    }

    static void noPage(String marked) {
        PlainPages pages = reading(without(marked));
        due("isPage() of " + marked, isPage(pages), "false");
        due("fault(0) of " + marked, pages.fault(0), 2);
        due("fault(1) of " + marked, pages.fault(1), marked.indexOf(MARK));
    }

    static void linked(String bytes) {
        PlainPages pages = reading(bytes);
        due("isLinked() of " + bytes, isLinked(pages), "true");
        due("fault(0) of " + bytes, pages.fault(0), 0);
        due("fault(1) of " + bytes, pages.fault(1), PlainPages.NONE);
    }

    static void notLinked(String marked) {
        PlainPages pages = reading(without(marked));
        due("isLinked() of " + marked, isLinked(pages), "false");
        due("fault(0) of " + marked, pages.fault(0), 3);
        due("fault(1) of " + marked, pages.fault(1), marked.indexOf(MARK));
    }

    private static String without(String marked) {
        int mark = marked.indexOf(MARK);
        return marked.substring(0, mark) + marked.substring(mark + 1);
    }
}
