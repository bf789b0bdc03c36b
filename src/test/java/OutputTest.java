/** Promises 14 to 16: plain, write, output. */
public final class OutputTest {
    public static void main(String[] args) {
        plains();
        writtens();
        outputs();
        noSuchNodes();
        largest();
        Desk.close("OutputTest");
    }

    private static void plains() {
        String high = Desk.utf8("\u00e4\u20ac\ud83d\ude00");
        plain("<x/>", 0, "");
        plain("<x a=\"b\">t<y>u<z/></y>v</x>", 0, "tuv");
        plain("<x a=\"b\">t<y>u<z/></y>v</x>", 1, "t");
        plain("<x a=\"b\">t<y>u<z/></y>v</x>", 2, "u");
        plain("<x a=\"b\">t<y>u<z/></y>v</x>", 4, "");
        plain("<x a=\"b\">t<y>u<z/></y>v</x>", 5, "v");
        plain("<x>&amp;&lt;&gt;&quot;&apos;&#228;&#8364;&#128512;</x>", 0, "&<>\"'" + high);
        plain("<x>" + high + "</x>", 0, high);
        plain("<x>a<br/>b</x>", 0, "a\nb");
        plain("<x>a<br>c<y>d</y></br>b</x>", 0, "a\nb");
        plain("<br>c</br>", 0, "\n");
        plain("<br>c</br>", 1, "c");
        plain("<BR>c</BR>", 0, "c");
        plain("<x>a<img alt=\"&lt;q>\"/>b</x>", 0, "a<q>b");
        plain("<x>a<img>c<br/></img>b</x>", 0, "ab");
        plain("<img src=\"s\" alt=\"" + high + "\">c<br/></img>", 0, high);
        plain("<img src=\"s\" alt=\"\">c<br/></img>", 0, "");
        plain("<img src=\"s\" alt=\"q\">c<br/></img>", 1, "c");
        plain("<img src=\"s\" alt=\"q\">c<br/></img>", 2, "\n");
        plain("<img title=\"s\"/>", 0, "");
        plain("<x><y alt=\"q\"/></x>", 0, "");
        plain("<x><br><img alt=\"q\"/></br><img alt=\"r\"><br/></img>s</x>", 0, "\nrs");
    }

    private static void plain(String bytes, int k, String want) {
        Desk.due("plain(" + k + ") of " + bytes, Desk.plain(Desk.reading(bytes), k), want);
    }

    private static void writtens() {
        String nested = "<x a=\"b\">t<y>u<z/></y>v</x>";
        written("<x></x>", 0, "<x/>");
        written("<x \n a=\"b\"  c=\"\" ></x >", 0, "<x a=\"b\" c=\"\"/>");
        written(nested, 0, nested);
        written(nested, 1, "t");
        written(nested, 2, "<y>u<z/></y>");
        written(nested, 3, "u");
        written(nested, 4, "<z/>");
        written(nested, 5, "v");
        written("<x><y><z>t</z></y></x>", 1, "<y><z>t</z></y>");
        written("<x><y><z>t</z></y></x>", 2, "<z>t</z>");
        written("<x><y><z>t</z></y></x>", 3, "t");
        written("<x><y><z/></y><y/></x>", 0, "<x><y><z/></y><y/></x>");
        written("<x>&amp;&lt;>\"'&apos;&#38;</x>", 0, "<x>&amp;&lt;&gt;&quot;''&amp;</x>");
        written("<x>&amp;&lt;>\"'&apos;&#38;</x>", 1, "&amp;&lt;&gt;&quot;''&amp;");
        written("<x a=\"&amp;&lt;>&quot;'\"/>", 0, "<x a=\"&amp;&lt;&gt;&quot;'\"/>");
        written("<x a=\"&#9;&#10;\r\">&#x80;&#x7ff;&#x800;&#xffff;</x>".replace("&#xffff;", "&#xfffd;&#x10000;&#x10ffff;"),
            0, "<x a=\"\t\n\r\">" + Desk.utf8("\u0080\u07ff\u0800\ufffd\ud800\udc00\udbff\udfff") + "</x>");
        written("<?xml version=\"1.0\" encoding=\"UTF-8\"?>\n<x><br>y</br><img alt=\"z\"/></x>\n", 0,
            "<x><br>y</br><img alt=\"z\"/></x>");
        String deep = "<a>".repeat(40) + "</a>".repeat(40);
        written(deep, 0, "<a>".repeat(39) + "<a/>" + "</a>".repeat(39));
        written(deep.replace("><", "> <"), 0, ("<a> ".repeat(40) + "</a> ".repeat(40)).trim());
    }

    private static void written(String bytes, int k, String want) {
        Desk.due("write(" + k + ") of " + bytes, Desk.written(Desk.reading(bytes), k), want);
    }

    private static void outputs() {
        PlainPages pages = Desk.reading("<x>ab<y/></x>");
        Desk.due("output(0) ahead of any", pages.output(0), -1);
        Desk.due("plain(0)", pages.plain(0), 2);
        Desk.due("output(0)", pages.output(0), (int) 'a');
        Desk.due("output(1)", pages.output(1), (int) 'b');
        for (int i : new int[] {2, -1, Integer.MAX_VALUE, Integer.MIN_VALUE, 23999, 24000}) {
            Desk.due("output(" + i + ")", pages.output(i), -1);
        }
        Desk.due("write(0)", pages.write(0), 13);
        Desk.due("output(12)", pages.output(12), (int) '>');
        Desk.due("plain(2)", pages.plain(2), 0);
        Desk.due("output(0) of nothing", pages.output(0), -1);
        Desk.due("plain(0)", pages.plain(0), 2);
        Desk.lay(pages, "<z>c</z>");
        Desk.due("read()", Desk.read(pages), "2");
        Desk.due("the output stays", Desk.output(pages), "ab");
        Desk.lay(pages, "<z>");
        Desk.due("read()", Desk.read(pages), "IllegalArgumentException");
        Desk.due("the output stays", Desk.output(pages), "ab");
    }

    private static void noSuchNodes() {
        PlainPages pages = Desk.reading("<x>ab</x>");
        pages.plain(0);
        for (int k : new int[] {-1, 2, 899, 900, Integer.MAX_VALUE, Integer.MIN_VALUE}) {
            Desk.due("plain(" + k + ")", Desk.plain(pages, k), "IndexOutOfBoundsException");
            Desk.due("write(" + k + ")", Desk.written(pages, k), "IndexOutOfBoundsException");
            Desk.due("the output stays", Desk.output(pages), "ab");
        }
        Desk.lay(pages, "");
        Desk.read(pages);
        Desk.due("plain(0)", Desk.plain(pages, 0), "IndexOutOfBoundsException");
        Desk.due("write(0)", Desk.written(pages, 0), "IndexOutOfBoundsException");
    }

    private static void largest() {
        PlainPages pages = Desk.reading("<a>" + "\"".repeat(3993) + "</a>");
        Desk.due("write(0)", pages.write(0), 6 * 3993 + 7);
        Desk.due("its end", pages.output(6 * 3993 + 6), (int) '>');
        Desk.due("behind its end", pages.output(6 * 3993 + 7), -1);
        Desk.due("plain(0)", pages.plain(0), 3993);
    }
}
