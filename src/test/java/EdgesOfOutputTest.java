/** The edges that the document names for the output: PLAIN, WRITTEN, and promises 14 to 16, sentence by sentence. */
public final class EdgesOfOutputTest {
    private static final int[] NO_NODES = {-1, -2, 3, 4, 300, 899, 900, 1 << 16, 1 << 28, Integer.MIN_VALUE,
        Integer.MIN_VALUE + 1, Integer.MAX_VALUE};

    public static void main(String[] args) {
        plainOfText();
        plainOfBr();
        plainOfImg();
        writtenEmpty();
        writtenSigns();
        writtenInUtf8();
        deepest();
        largest();
        plainOfNoNode();
        writtenOfNoNode();
        refusedCallsLeaveOutput();
        noOutput();
        Desk.close("EdgesOfOutputTest");
    }

    private static void plain(String bytes, int k, String want) {
        Desk.due("plain(" + k + ") of " + bytes, Desk.plain(Desk.reading(bytes), k), want);
    }

    private static void written(String bytes, int k, String want) {
        Desk.due("write(" + k + ") of " + bytes, Desk.written(Desk.reading(bytes), k), want);
    }

    private static void plainOfText() {
        Desk.sentence("PLAIN of a node: a text; of an element what it holds, one behind the other");
        plain("<a/>", 0, "");
        plain("<a b=\"c\"/>", 0, "");
        plain("<a><b/><c><d/></c></a>", 0, "");
        plain("<a>t</a>", 0, "t");
        plain("<a>t</a>", 1, "t");
        plain("<a>t<b>u</b>v</a>", 0, "tuv");
        plain("<a>t<b>u</b>v</a>", 2, "u");
        plain("<a>t<b>u</b>v</a>", 4, "v");
        String largest = "x".repeat(3993);
        plain("<a>" + largest + "</a>", 0, largest);
    }

    private static void plainOfBr() {
        Desk.sentence("(br: 10 alone");
        plain("<br/>", 0, "\n");
        plain("<br>t<b>u</b></br>", 0, "\n");
        plain("<br>t<b>u</b></br>", 2, "u");
        plain("<br><br/></br>", 0, "\n");
        plain("<a>" + "<br/>".repeat(299) + "</a>", 0, "\n".repeat(299));
        plain("<a><Br>t</Br><brr>u</brr></a>", 0, "tu");
    }

    private static void plainOfImg() {
        Desk.sentence("img: its alt alone, nothing without one)");
        plain("<img/>", 0, "");
        plain("<img>t</img>", 0, "");
        plain("<img alt=\"\">t</img>", 0, "");
        plain("<img alt=\"u\">t<br/></img>", 0, "u");
        plain("<img src=\"v\" title=\"w\" ALT=\"x\">t</img>", 0, "");
        plain("<a>t<img alt=\"u\"><img alt=\"v\"/></img>w</a>", 0, "tuw");
        plain("<a alt=\"u\"/>", 0, "");
    }

    private static void writtenEmpty() {
        Desk.sentence("<NAME, each attribute as a space, NAME=\"..\", then /> if it holds nothing, else >");
        written("<a></a>", 0, "<a/>");
        written("<a />", 0, "<a/>");
        written("<a> </a >", 0, "<a> </a>");
        written("<a\n\tb=\"\"  ></a>", 0, "<a b=\"\"/>");
        written("<a b=\"1\" c=\"2\"><d></d></a>", 0, "<a b=\"1\" c=\"2\"><d/></a>");
        written("<br></br>", 0, "<br/>");
        written("<img alt=\"t\">u</img>", 0, "<img alt=\"t\">u</img>");
    }

    private static void writtenSigns() {
        Desk.sentence("& < > \" are told &amp; &lt; &gt; &quot; everywhere");
        written("<a b=\"&amp;&lt;&gt;&quot;&apos;>'\"/>", 0, "<a b=\"&amp;&lt;&gt;&quot;'&gt;'\"/>");
        written("<a>&amp;&lt;&gt;&quot;&apos;>\"'</a>", 1, "&amp;&lt;&gt;&quot;'&gt;&quot;'");
        written("<a>&#38;#38;</a>", 1, "&amp;#38;");
    }

    private static void writtenInUtf8() {
        Desk.sentence("others in UTF-8");
        int[] codes = {9, 10, 13, 32, 127, 128, 2047, 2048, 55295, 57344, 65533, 65536, 1114111};
        StringBuilder references = new StringBuilder();
        StringBuilder characters = new StringBuilder();
        for (int code : codes) {
            references.append("&#").append(code).append(';');
            characters.appendCodePoint(code);
        }
        String told = Desk.utf8(characters.toString());
        String bytes = "<a b=\"" + references + "\">" + references + "</a>";
        written(bytes, 0, "<a b=\"" + told + "\">" + told + "</a>");
        written(bytes, 1, told);
        plain(bytes, 0, told);
    }

    private static void deepest() {
        Desk.sentence("what it holds, </NAME>");
        String deep = "<a>".repeat(40) + "t" + "</a>".repeat(40);
        PlainPages pages = Desk.reading(deep);
        for (int k = 0; k < 40; k++) {
            int around = 40 - k;
            Desk.due("write(" + k + ")", Desk.written(pages, k), "<a>".repeat(around) + "t" + "</a>".repeat(around));
            if (k % 13 == 0) {
                Desk.due("plain(" + k + ")", Desk.plain(pages, k), "t");
            }
        }
        Desk.due("write(40)", Desk.written(pages, 40), "t");
        String wide = "<a>" + "<b/>".repeat(299) + "</a>";
        written(wide, 0, wide);
    }

    private static void largest() {
        Desk.sentence("write: how many bytes (as many as can be)");
        PlainPages pages = Desk.reading("<a>" + "\"".repeat(3993) + "</a>");
        Desk.due("write(0)", pages.write(0), 7 + 6 * 3993);
        Desk.due("about(3)", pages.about(3), 7 + 6 * 3993);
        Desk.due("the last byte", pages.output(6 + 6 * 3993), (int) '>');
        Desk.due("behind the last byte", pages.output(7 + 6 * 3993), -1);
        Desk.due("write(1)", pages.write(1), 6 * 3993);
        Desk.due("plain(0)", pages.plain(0), 3993);
    }

    private static void plainOfNoNode() {
        Desk.sentence("plain: IndexOutOfBoundsException: there is no such node.");
        PlainPages pages = Desk.reading("<a>t<b/></a>");
        for (int k : NO_NODES) {
            Desk.due("plain(" + k + ")", Desk.plain(pages, k), "IndexOutOfBoundsException");
        }
        Desk.due("plain(2), the last", Desk.plain(pages, 2), "");
        Desk.due("plain(0) with nothing read", Desk.plain(new PlainPages(), 0), "IndexOutOfBoundsException");
        Desk.lay(pages, "<a>");
        Desk.read(pages);
        Desk.due("plain(0) behind a fault", Desk.plain(pages, 0), "IndexOutOfBoundsException");
    }

    private static void writtenOfNoNode() {
        Desk.sentence("write: IndexOutOfBoundsException: there is no such node.");
        PlainPages pages = Desk.reading("<a>t<b/></a>");
        for (int k : NO_NODES) {
            Desk.due("write(" + k + ")", Desk.written(pages, k), "IndexOutOfBoundsException");
        }
        Desk.due("write(2), the last", Desk.written(pages, 2), "<b/>");
        Desk.due("write(0) with nothing read", Desk.written(new PlainPages(), 0), "IndexOutOfBoundsException");
        Desk.lay(pages, "<a>");
        Desk.read(pages);
        Desk.due("write(0) behind a fault", Desk.written(pages, 0), "IndexOutOfBoundsException");
    }

    private static void refusedCallsLeaveOutput() {
        Desk.sentence("THE OUTPUT is node k's PLAIN (and stays where a call is refused)");
        PlainPages pages = Desk.reading("<a>t<b/></a>");
        pages.write(0);
        for (int k : NO_NODES) {
            Desk.plain(pages, k);
            Desk.written(pages, k);
            Desk.due("the output behind " + k, Desk.output(pages), "<a>t<b/></a>");
        }
        pages.wipe();
        Desk.due("read()", Desk.read(pages), "IllegalArgumentException");
        Desk.due("the output behind a fault", Desk.output(pages), "<a>t<b/></a>");
        Desk.due("about(3)", pages.about(3), 12);
    }

    private static void noOutput() {
        Desk.sentence("Byte i of the output; NONE if there is none.");
        Desk.due("output(0) of a new one", new PlainPages().output(0), -1);
        PlainPages pages = Desk.reading("<a>tu<b/></a>");
        Desk.due("output(0) ahead of any", pages.output(0), -1);
        Desk.due("plain(0)", pages.plain(0), 2);
        Desk.due("output(0)", pages.output(0), (int) 't');
        Desk.due("output(1), the last", pages.output(1), (int) 'u');
        for (int i : new int[] {-1, 2, 3, 4000, 23999, 24000, Integer.MIN_VALUE, Integer.MAX_VALUE}) {
            Desk.due("output(" + i + ")", pages.output(i), -1);
        }
        Desk.due("plain(2) is empty", pages.plain(2), 0);
        Desk.due("output(0) of an empty one", pages.output(0), -1);
        pages = Desk.reading("<a>\u00c3\u00bf</a>");
        Desk.due("plain(0)", pages.plain(0), 2);
        Desk.due("output(0) is a byte", pages.output(0), 0xC3);
        Desk.due("output(1) is a byte", pages.output(1), 0xBF);
    }
}
