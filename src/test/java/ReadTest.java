/** Promises 5 and 8: read, and the fault of reading. A | marks where the text is wrong. */
public final class ReadTest {
    private static final String DECLARATION = "<?xml version=\"1.0\" encoding=\"UTF-8\"?>";

    public static void main(String[] args) {
        wholes();
        declarations();
        tags();
        names();
        attributes();
        ends();
        characters();
        references();
        depths();
        counts();
        faultOfTheLatest();
        Desk.close("ReadTest");
    }

    private static void wholes() {
        Desk.refused("|");
        Desk.refused(" \n|");
        Desk.refused("|x");
        Desk.refused(" |x<a/>");
        Desk.refused("|&amp;<a/>");
        Desk.refused("<a/>|<b/>");
        Desk.refused("<a/>  |<b/>");
        Desk.refused("<a/> |x");
        Desk.refused("<a></a>|</a>");
        Desk.refused("|\u00ef\u00bb\u00bf<a/>");
        Desk.refused("<a/>|\0");
        Desk.reads("<a/>", 1);
        Desk.reads("\t\n\r <a/>\t\n\r ", 1);
        Desk.reads("<a></a>", 1);
        Desk.reads("<a> </a>", 2);
        Desk.reads("<a>x<b/>y<c>z</c><d/></a>", 7);
    }

    private static void declarations() {
        Desk.reads(DECLARATION + "<a/>", 1);
        Desk.reads(DECLARATION + " \n<a/>", 1);
        Desk.refused(DECLARATION + "|");
        Desk.refused(DECLARATION + "<|?xml?><a/>");
        Desk.refused(DECLARATION + "<|" + DECLARATION.substring(1) + "<a/>");
        Desk.refused(" <|" + DECLARATION.substring(1) + "<a/>");
        Desk.refused("<|?xml version=\"1.0\" encoding=\"utf-8\"?><a/>");
        Desk.refused("<|?xml version=\"1.0\"?><a/>");
        Desk.refused("<|?xml version='1.0' encoding='UTF-8'?><a/>");
        Desk.refused("<|?xml  version=\"1.0\" encoding=\"UTF-8\"?><a/>");
        Desk.refused("<|?");
        Desk.refused("<|?xml version=\"1.0\" encoding=\"UTF-8\"?");
        Desk.refused("<|?pi?><a/>");
        Desk.refused("<a><|?pi?></a>");
        Desk.refused("<a><|!-- c --></a>");
        Desk.refused("<|!DOCTYPE a><a/>");
        Desk.refused("<a><|![CDATA[x]]></a>");
    }

    private static void tags() {
        Desk.refused("<|");
        Desk.refused("<| a/>");
        Desk.refused("<|>");
        Desk.refused("<|/a>");
        Desk.refused("<a|");
        Desk.refused("<a |");
        Desk.refused("<a/|");
        Desk.refused("<a/| >");
        Desk.refused("<a /|/>");
        Desk.refused("<a |1=\"\"/>");
        Desk.refused("<a|</a>");
        Desk.refused("<a |<b/>");
        Desk.refused("<a|&amp;/>");
        Desk.refused("<a|\u00e4/>");
        Desk.refused("<a>|");
        Desk.refused("<a>x|");
        Desk.refused("<a><|");
        Desk.refused("<a><| b/></a>");
        Desk.refused("<a><b/>|");
        Desk.refused("<a></|");
        Desk.refused("<a></| a>");
        Desk.refused("<a></|>");
        Desk.refused("<a></|1>");
        Desk.refused("<a></|//a>");
        Desk.reads("<a\n/>", 1);
        Desk.reads("<a \t\r\n></a\t \r\n>", 1);
    }

    private static void names() {
        String thirty = "abcdefghijklmnopqrstuvwxyz0123";
        Desk.reads("<_/>", 1);
        Desk.reads("<A-z_0.:9/>", 1);
        Desk.reads("<Z z=\"\"/>", 1);
        for (String wrong : new String[] {"1", "-", ".", ":", "\u00e4", "@", "[", "`", "{"}) {
            Desk.refused("<|" + wrong + "/>");
            Desk.refused("<a |" + wrong + "=\"\"/>");
        }
        for (String wrong : new String[] {"@", "[", "`", "{", ";", ",", "\u00e4"}) {
            Desk.refused("<a|" + wrong + "/>");
        }
        Desk.reads("<" + thirty + "/>", 1);
        Desk.reads("<" + thirty + "></" + thirty + ">", 1);
        Desk.reads("<a " + thirty + "=\"\"/>", 1);
        Desk.refused("<" + thirty + "|4/>");
        Desk.refused("<" + thirty + "|4");
        Desk.refused("<" + thirty + "|4567/>");
        Desk.refused("<" + thirty + "|4567\u00e4");
        Desk.refused("<a " + thirty + "|4=\"\"/>");
        Desk.refused("<a " + thirty + "|4");
        Desk.refused("<a></" + thirty + "|4>");
        Desk.refused("<" + thirty + "></" + thirty + "|4>");
        Desk.refused("<" + thirty + "|");
    }

    private static void attributes() {
        Desk.reads("<a b=\"\" c=\"1\"\td=\"'>/=\"\n/>", 1);
        Desk.reads("<a b=\"1\" B=\"1\" bb=\"1\"><c b=\"2\"/></a>", 2);
        Desk.refused("<a b=\"1\" |b=\"2\"/>");
        Desk.refused("<a b=\"1\" c=\"1\" |b=\"2\"/>");
        Desk.refused("<a b=\"1\" |b");
        Desk.refused("<a b=\"1\" |b 1");
        Desk.refused("<a b=\"1\" bc|");
        Desk.refused("<a b=\"1\"|c=\"2\"/>");
        Desk.refused("<a b=\"1\"|\"/>");
        Desk.refused("<a b|");
        Desk.refused("<a b| =\"1\"/>");
        Desk.refused("<a b=| \"1\"/>");
        Desk.refused("<a b=|");
        Desk.refused("<a b=|'1'/>");
        Desk.refused("<a b=|1/>");
        Desk.refused("<a b|/>");
        Desk.refused("<a b=\"|");
        Desk.refused("<a b=\"x|");
        Desk.refused("<a b=\"x|<\"/>");
        Desk.refused("<a b=\"x\"|");
        Desk.refused("<a b=\"|&\"/>");
        Desk.refused("<a b=\"|\1\"/>");
        Desk.refused("<a b=\"|\u00ff\"/>");
        Desk.refused("<a> <b b=\"1\" |b=\"2\"/></a>");
    }

    private static void ends() {
        Desk.refused("<a></|b>");
        Desk.refused("<a></|aa>");
        Desk.refused("<ab></|a>");
        Desk.refused("<ab></|a");
        Desk.refused("<a></|A>");
        Desk.refused("<a></a|");
        Desk.refused("<a></a |");
        Desk.refused("<a></a |b>");
        Desk.refused("<a></a|/>");
        Desk.refused("<a><b></|a></b>");
        Desk.refused("<a><b/></|b></a>");
        Desk.refused("<a><b></b>|");
        Desk.reads("<a><b></b ><b/></a\n>", 3);
    }

    private static void characters() {
        Desk.reads("<a>\t\n\r \u007f\"'>]]></a>", 2);
        everyPrintable();
        for (String good : new String[] {"\u0080", "\u07ff", "\u0800", "\ud7ff", "\ue000", "\ufffd", "\ud800\udc00",
            "\ud83f\udffe", "\udbff\udfff"}) {
            PlainPages pages = Desk.reading("<a b=\"" + Desk.utf8(good) + "\">" + Desk.utf8(good) + "</a>");
            Desk.due("letter(1, 0)", pages.letter(1, 0), good.codePointAt(0));
            Desk.due("node(1, 3)", pages.node(1, 3), 1);
            Desk.due("sign(0, 0, true, 0)", pages.sign(0, 0, true, 0), good.codePointAt(0));
            Desk.due("attribute(0, 0, 1)", pages.attribute(0, 0, 1), 1);
        }
        for (String wrong : new String[] {"\0", "\1", "\10", "\13", "\14", "\16", "\37", "\u0080", "\u00bf",
            "\u00c0\u0080", "\u00c1\u00bf", "\u00e0\u0080\u0080", "\u00e0\u009f\u00bf", "\u00ed\u00a0\u0080",
            "\u00ed\u00bf\u00bf", "\u00ef\u00bf\u00be", "\u00ef\u00bf\u00bf", "\u00f0\u008f\u00bf\u00bf",
            "\u00f4\u0090\u0080\u0080", "\u00f5\u0080\u0080\u0080", "\u00f8\u0090\u0080\u0080", "\u00f8\u0088\u0080\u0080\u0080",
            "\u009f\u0080", "\u00bf\u00bf", "\u00fe",
            "\u00ff", "\u00e2\u0082", "\u00c3", "\u00c3(", "\u00f0\u009f\u0098", "\u00e2(\u00ac", "\u00c3\u00c0"}) {
            Desk.refused("<a>x|" + wrong + "</a>");
            Desk.refused("<a>x|" + wrong);
            Desk.refused("<a b=\"x|" + wrong + "\"/>");
            Desk.refused("<a b=\"|" + wrong);
        }
    }

    private static void everyPrintable() {
        StringBuilder row = new StringBuilder();
        for (char sign = ' '; sign < 127; sign++) {
            row.append("<&\"".indexOf(sign) < 0 ? String.valueOf(sign) : "");
        }
        PlainPages pages = Desk.reading("<a b=\"" + row + "\">\"" + row + "</a>");
        Desk.due("nodes", pages.about(1), 2);
        Desk.due("node(1, 3)", pages.node(1, 3), row.length() + 1);
        Desk.due("attribute(0, 0, 1)", pages.attribute(0, 0, 1), row.length());
        Desk.due("plain(0)", Desk.plain(pages, 0), "\"" + row);
    }

    private static void references() {
        meant("&amp;", '&');
        meant("&lt;", '<');
        meant("&gt;", '>');
        meant("&quot;", '"');
        meant("&apos;", '\'');
        meant("&#65;", 65);
        meant("&#9;", 9);
        meant("&#10;", 10);
        meant("&#13;", 13);
        meant("&#0000065;", 65);
        meant("&#1114111;", 1114111);
        meant("&#55295;", 55295);
        meant("&#57344;", 57344);
        meant("&#65533;", 65533);
        meant("&#65536;", 65536);
        meant("&#127;", 127);
        meant("&#x41;", 65);
        meant("&#X41;", 65);
        meant("&#xaF;", 175);
        meant("&#x00000a;".replace("00000a", "00000A"), 10);
        meant("&#x10FFFF;", 1114111);
        meant("&#x10ffff;", 1114111);
        for (String wrong : new String[] {"&", "& ", "&;", "&x;", "&amp", "&amp ", "&AMP;", "&am;", "&ampx;", "&nbsp;",
            "&#;", "&#x;", "&#X;", "&#", "&#x", "&#6", "&#65", "&#x41", "&#65 ;", "&# 65;", "&#-65;", "&#6a;", "&#xg;",
            "&#00000065;", "&#x0000041;", "&#0;", "&#8;", "&#11;", "&#12;", "&#14;", "&#31;", "&#x1F;", "&#55296;",
            "&#57343;", "&#65534;", "&#65535;", "&#xFFFE;", "&#1114112;", "&#x110000;", "&#9999999;", "&#xFFFFFF;",
            "&#x", "&lt", "&quot", "&apos", "&#xx41;", "&#@;", "&#:;", "&#/;", "&#x@;", "&#xG;", "&#x`;"}) {
            Desk.refused("<a>x|" + wrong + "</a>");
            Desk.refused("<a>x|" + wrong);
            Desk.refused("<a b=\"x|" + wrong + "\"/>");
        }
        Desk.refused("<a>&amp;&amp;|&</a>");
    }

    private static void meant(String reference, int code) {
        PlainPages pages = Desk.reading("<a b=\"x" + reference + "\">" + reference + "x</a>");
        Desk.due(reference + " in a text", pages.letter(1, 0), code);
        Desk.due(reference + " is one character of a text", pages.node(1, 3), 2);
        Desk.due(reference + " in a value", pages.sign(0, 0, true, 1), code);
        Desk.due(reference + " is one character of a value", pages.attribute(0, 0, 1), 2);
    }

    private static void depths() {
        String open = "<a>".repeat(39);
        String shut = "</a>".repeat(39);
        Desk.reads(open + "<a/>" + shut, 40);
        Desk.reads(open + "<a/><a/>t" + shut, 42);
        Desk.reads(open + "<a>t</a>" + shut, 41);
        Desk.refused(open + "<a>|<a/></a>" + shut);
        Desk.refused(open + "<a>t|<a/></a>" + shut);
        Desk.refused(open + "<a>|<");
        Desk.refused(open + "<a>|<?");
        Desk.refused(open + "<a>|<1");
        Desk.refused(open + "<a></|");
        Desk.refused(open + "<a></|b>");
        Desk.refused(open + "<|");
        Desk.refused(open + "<|?");
        Desk.due("node(40, 7)", Desk.reading(open + "<a>t</a>" + shut).node(40, 7), 41);
    }

    private static void counts() {
        String many = "<a>" + "<a/>".repeat(298);
        Desk.reads(many + "<a/></a>", 300);
        Desk.reads(many + "<a></a></a>", 300);
        Desk.refused(many + "<a/>|<a/></a>");
        Desk.refused(many + "<a/>|<");
        Desk.refused(many + "<a/>|<?");
        Desk.refused(many + "<a/></|b>");
        Desk.refused(many + "<a>|<a/></a></a>");
        Desk.refused(many + "<|");
        Desk.refused(many + "<a/></a>|<a/>");
        String most = "<a>" + "x<a>x</a>".repeat(299) + "x</a>";
        Desk.reads(most, 899);
        Desk.due("about(2)", Desk.reading(most).about(2), 300);
        Desk.reads("<a>" + "x".repeat(3993) + "</a>", 2);
    }

    private static void faultOfTheLatest() {
        PlainPages pages = Desk.with("<a><b");
        Desk.due("fault(0) ahead of any", pages.fault(0), 0);
        Desk.due("fault(1) ahead of any", pages.fault(1), -1);
        Desk.due("read()", Desk.read(pages), "IllegalArgumentException");
        Desk.due("fault(0)", pages.fault(0), 1);
        Desk.due("fault(1)", pages.fault(1), 5);
        Desk.due("fault(2)", pages.fault(2), -1);
        Desk.due("fault(-1)", pages.fault(-1), -1);
        Desk.due("isLinked() is refused", Desk.isLinked(pages), "IllegalStateException");
        Desk.due("fault(0) stays", pages.fault(0), 1);
        Desk.due("fault(1) stays", pages.fault(1), 5);
        Desk.lay(pages, "<a><a href=\"#\"/></a>");
        Desk.due("fault(0) stays until read()", pages.fault(0), 1);
        Desk.due("read()", Desk.read(pages), "2");
        Desk.due("fault(0)", pages.fault(0), 0);
        Desk.due("fault(1)", pages.fault(1), -1);
        Desk.due("isPage()", Desk.isPage(pages), "false");
        Desk.due("fault(0)", pages.fault(0), 2);
        Desk.due("fault(1)", pages.fault(1), 0);
        Desk.due("isLinked()", Desk.isLinked(pages), "false");
        Desk.due("fault(0)", pages.fault(0), 3);
        Desk.due("fault(1)", pages.fault(1), 3);
        Desk.due("read()", Desk.read(pages), "2");
        Desk.due("fault(0)", pages.fault(0), 0);
        Desk.due("fault(1)", pages.fault(1), -1);
    }
}
