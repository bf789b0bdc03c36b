/** The edges that the document names for pages and links: of their terms, and of promises 6 and 7. */
public final class EdgesOfPagesTest {
    private static final String HEAD = "<html><head><title/></head><body>";
    private static final String SHUT = "</body></html>";
    private static final String[] WITH_TEXT = {"p", "h1", "h2", "h3", "h4", "h5", "h6"};

    public static void main(String[] args) {
        firstElement();
        html();
        head();
        title();
        blocks();
        headings();
        lists();
        items();
        inlines();
        eachInEach();
        aInA();
        pre();
        code();
        nothing();
        whiteMayBe();
        idAnywhere();
        onlyWhereTold();
        onA();
        onImg();
        onCode();
        start();
        idTwice();
        links();
        pageOfNothing();
        linksOfNothing();
        linksOfNoPage();
        Desk.close("EdgesOfPagesTest");
    }

    private static void inBody(String bytes) {
        Desk.page(HEAD + bytes + SHUT);
    }

    private static void notInBody(String marked) {
        Desk.noPage(HEAD + marked + SHUT);
    }

    private static void firstElement() {
        Desk.sentence("FAULT 2, at the < of the first element, as they begin, that is not so");
        notInBody("<p>|<x/></p><y/>");
        notInBody("<p>t|<x><y/></x></p>");
        notInBody("|<pre><code/>t</pre><x/>");
        notInBody("|<ol start=\"\"><x/></ol>");
        notInBody("<p>|<a><x/></a></p>");
        notInBody("<p/>".repeat(200) + "|<x/>");
        Desk.noPage("|<x><html/></x>");
        Desk.noPage("  \n|<x/>");
        Desk.noPage("<?xml version=\"1.0\" encoding=\"UTF-8\"?>|<x/>");
    }

    private static void html() {
        Desk.sentence("html, the whole (it must hold head and body, just these, in this order)");
        String head = "<head><title/></head>";
        Desk.page("<html>" + head + "<body/></html>");
        Desk.noPage("|<html/>");
        Desk.noPage("|<html> </html>");
        Desk.noPage("|<html>" + head + "</html>");
        Desk.noPage("|<html><body/></html>");
        Desk.noPage("|<html><body/>" + head + "</html>");
        Desk.noPage("|<html>" + head + head + "<body/></html>");
        Desk.noPage("|<html>" + head + "<body/><body/></html>");
        Desk.noPage("|<html>" + head + "<body/><p/></html>");
        Desk.noPage("|<html><p/>" + head + "<body/></html>");
        Desk.noPage("|<html>" + head + "<p/><body/></html>");
        Desk.noPage("|<html>" + head + "<x/></html>");
        Desk.noPage("|" + head);
        Desk.noPage("|<body/>");
        Desk.noPage("|<Html>" + head + "<body/></Html>");
        notInBody("|<html>" + head + "<body/></html>");
    }

    private static void head() {
        Desk.sentence("head (just one title)");
        Desk.noPage("<html>|<head/><body/></html>");
        Desk.noPage("<html>|<head></head><body/></html>");
        Desk.page("<html><head><title/></head><body/></html>");
        Desk.noPage("<html>|<head><title/><title/></head><body/></html>");
        Desk.noPage("<html>|<head><title/><p/></head><body/></html>");
        Desk.noPage("<html>|<head><p/><title/></head><body/></html>");
        Desk.noPage("<html>|<head><Title/></head><body/></html>");
    }

    private static void title() {
        Desk.sentence("title (text)");
        Desk.page("<html><head><title></title></head><body/></html>");
        Desk.page("<html><head><title> </title></head><body/></html>");
        Desk.page("<html><head><title>t&lt;</title></head><body/></html>");
        Desk.noPage("<html><head><title>|<em/></title></head><body/></html>");
        Desk.noPage("<html><head><title>t|<title/>t</title></head><body/></html>");
    }

    private static void blocks() {
        Desk.sentence("body and blockquote (BLOCKS)");
        inBody("");
        inBody("<blockquote/>");
        String all = "<p/><h1/><h2/><h3/><h4/><h5/><h6/><hr/><pre><code/></pre><blockquote/><ul/><ol/>";
        inBody(all);
        inBody("<blockquote>" + all + "</blockquote>");
        inBody("<blockquote>".repeat(38) + "</blockquote>".repeat(38));
        for (String wrong : new String[] {"<em/>", "<strong/>", "<code/>", "<a href=\"\"/>", "<br/>",
            "<img src=\"\" alt=\"\"/>", "<li/>", "<title/>", "<head/>", "<body/>", "<x/>"}) {
            notInBody("|" + wrong);
            notInBody("<p/>|" + wrong);
            notInBody("<blockquote>|" + wrong + "</blockquote>");
        }
    }

    private static void headings() {
        Desk.sentence("h1 to h6");
        inBody("<h1/>");
        inBody("<h6/>");
        for (String wrong : new String[] {"h", "h0", "h7", "h10", "h11", "H1", "h-", "h1.", "hr1"}) {
            notInBody("|<" + wrong + "/>");
        }
    }

    private static void lists() {
        Desk.sentence("ul and ol (li)");
        for (String list : new String[] {"ul", "ol"}) {
            String begin = "<" + list + ">";
            String end = "</" + list + ">";
            inBody(begin + end);
            inBody(begin + "<li/>" + end);
            inBody(begin + "<li/>".repeat(200) + end);
            notInBody(begin + "|<p/>" + end);
            notInBody(begin + "<li/>|<ul/>" + end);
            notInBody(begin + "|<Li/>" + end);
            notInBody("|" + begin + "t" + end);
        }
        notInBody("|<li/>");
    }

    private static void items() {
        Desk.sentence("li (BLOCKS and INLINES)");
        inBody("<ul><li/></ul>");
        inBody("<ul><li>t<p/><h1/><h6/><hr/><pre><code/></pre><blockquote/><ul/><ol/>t</li></ul>");
        inBody("<ul><li>t<em/><strong/><code/><a href=\"\"/><br/><img src=\"\" alt=\"\"/>t</li></ul>");
        notInBody("<ul><li>|<li/></li></ul>");
        notInBody("<ul><li>|<body/></li></ul>");
        notInBody("<ul><li>|<x/></li></ul>");
    }

    private static void inlines() {
        Desk.sentence("p, h1 to h6, em, strong, a (INLINES");
        String all = "t<em>t</em><strong/><code/><br/><img src=\"\" alt=\"\"/>";
        for (String around : WITH_TEXT) {
            inBody("<" + around + "/>");
            inBody("<" + around + ">" + all + "<a href=\"\"/></" + around + ">");
            notInBody("<" + around + ">|<p/></" + around + ">");
            notInBody("<" + around + ">|<hr/></" + around + ">");
            notInBody("<" + around + ">|<li/></" + around + ">");
        }
        inBody("<p><em>" + all + "<a href=\"\"/></em><strong>" + all + "<a href=\"\"/></strong></p>");
        inBody("<p><a href=\"\">" + all + "</a></p>");
        notInBody("<p><em>|<p/></em></p>");
        notInBody("<p><strong>|<ul/></strong></p>");
        notInBody("<p><a href=\"\">|<h1/></a></p>");
    }

    /** Every element of a page in every one that may hold some; what may not be there is wrong itself. */
    private static void eachInEach() {
        Desk.sentence("BLOCKS: p, h1 to h6, hr, pre, blockquote, ul, ol. INLINES: text, em, strong, code, a, br, img.");
        String blocks = " p h1 h2 h3 h4 h5 h6 hr pre blockquote ul ol ";
        String inlines = " em strong code a br img ";
        for (String held : (blocks + inlines + " li html head title body x").trim().split(" +")) {
            String whole = whole(held);
            boolean block = blocks.contains(" " + held + " ");
            boolean inline = inlines.contains(" " + held + " ");
            in("", whole, "", block);
            in("<blockquote>", whole, "</blockquote>", block);
            in("<ul>", whole, "</ul>", held.equals("li"));
            in("<ol>", whole, "</ol>", held.equals("li"));
            in("<ul><li>", whole, "</li></ul>", block || inline);
            for (String around : WITH_TEXT) {
                in("<" + around + ">", whole, "</" + around + ">", inline);
            }
            in("<p><em>", whole, "</em></p>", inline);
            in("<p><strong>", whole, "</strong></p>", inline);
            in("<p><a href=\"\">", whole, "</a></p>", inline && !held.equals("a"));
            in("<p><code>", whole, "</code></p>", false);
            in("<pre><code>", whole, "</code></pre>", false);
            in("<hr>", whole, "</hr>", false);
            in("<p><br>", whole, "</br></p>", false);
            in("<p><img src=\"\" alt=\"\">", whole, "</img></p>", false);
            Desk.noPage("<html><head><title>|" + whole + "</title></head><body/></html>");
        }
    }

    private static void in(String ahead, String element, String behind, boolean may) {
        if (may) {
            inBody(ahead + element + behind);
        } else {
            notInBody(ahead + "|" + element + behind);
        }
    }

    private static String whole(String name) {
        switch (name) {
            case "a":
                return "<a href=\"\"/>";
            case "img":
                return "<img src=\"\" alt=\"\"/>";
            case "pre":
                return "<pre><code/></pre>";
            case "head":
                return "<head><title/></head>";
            case "html":
                return "<html><head><title/></head><body/></html>";
            default:
                return "<" + name + "/>";
        }
    }

    private static void aInA() {
        Desk.sentence("no a in an a, however deep");
        String inner = "<a href=\"\"/>";
        for (int deep = 0; deep <= 35; deep++) {
            String open = "<em>".repeat(deep);
            String shut = "</em>".repeat(deep);
            notInBody("<p><a href=\"\">" + open + "|" + inner + shut + "</a></p>");
            inBody("<p><a href=\"\">" + open + shut + "</a>" + open + inner + shut + "</p>");
        }
    }

    private static void pre() {
        Desk.sentence("pre (just one code)");
        notInBody("|<pre/>");
        notInBody("|<pre> </pre>");
        inBody("<pre><code/></pre>");
        inBody("<pre> <code/> </pre>");
        notInBody("|<pre><code/><code/></pre>");
        notInBody("|<pre>t<code/></pre>");
        notInBody("|<pre><em/></pre>");
        notInBody("|<pre><em/><code/></pre>");
    }

    private static void code() {
        Desk.sentence("code (text)");
        inBody("<p><code/><code> </code><code>t</code></p>");
        inBody("<pre><code>t\n t</code></pre>");
        notInBody("<p><code>|<code/></code></p>");
        notInBody("<pre><code>t|<br/></code></pre>");
    }

    private static void nothing() {
        Desk.sentence("hr, br, img (nothing: an element in them may not be there, and is wrong itself)");
        for (String name : new String[] {"hr", "br", "img"}) {
            String ahead = name.equals("hr") ? "" : "<p>";
            String behind = name.equals("hr") ? "" : "</p>";
            String begin = name.equals("img") ? "<img src=\"\" alt=\"\"" : "<" + name;
            String end = "</" + name + ">";
            inBody(ahead + begin + "/>" + behind);
            inBody(ahead + begin + ">" + end + behind);
            for (String wrong : new String[] {"br", "hr", "p", "em", "x", "li", "html"}) {
                notInBody(ahead + begin + ">|<" + wrong + "/>" + end + behind);
            }
            notInBody(ahead + "|" + begin + ">t" + end + behind);
            notInBody(ahead + "|" + begin + "><br/>t" + end + behind);
        }
    }

    private static void whiteMayBe() {
        Desk.sentence("Where no text may be WHITE may be (not in hr, br, img).");
        String white = "\t\n\r &#9;&#10;&#13;&#32;";
        Desk.page("<html>" + white + "<head>" + white + "<title/>" + white + "</head>" + white + "<body>" + white
            + "<p/>" + white + "<blockquote>" + white + "</blockquote><ul>" + white + "<li/>" + white + "</ul><ol>" + white
            + "</ol><pre>" + white + "<code/>" + white + "</pre></body>" + white + "</html>");
        for (String wrong : new String[] {"t", " t ", "&#160;", "\u007f", "&#8203;", "0"}) {
            Desk.noPage("|<html>" + wrong + "<head><title/></head><body/></html>");
            Desk.noPage("|<html><head><title/></head><body/>" + wrong + "</html>");
            Desk.noPage("<html>|<head><title/>" + wrong + "</head><body/></html>");
            Desk.noPage("<html><head><title/></head>|<body><p/>" + wrong + "</body></html>");
            notInBody("|<blockquote>" + wrong + "</blockquote>");
            notInBody("|<ul><li/>" + wrong + "</ul>");
            notInBody("|<ol>" + wrong + "<li/></ol>");
            notInBody("|<pre><code/>" + wrong + "</pre>");
        }
        for (String sign : new String[] {"\t", "\n", "\r", " ", "&#32;"}) {
            notInBody("|<hr>" + sign + "</hr>");
            notInBody("<p>|<br>" + sign + "</br></p>");
            notInBody("<p>|<img src=\"\" alt=\"\">" + sign + "</img></p>");
        }
    }

    private static void idAnywhere() {
        Desk.sentence("Attributes: id anywhere");
        Desk.page("<html id=\"1\"><head id=\"2\"><title id=\"3\"/></head><body id=\"4\"><blockquote id=\"5\"/>"
            + "<ul id=\"6\"><li id=\"7\"/></ul><ol id=\"8\"/><h1 id=\"9\"/><h2 id=\"10\"/><h3 id=\"11\"/><h4 id=\"12\"/>"
            + "<h5 id=\"13\"/><h6 id=\"14\"/><pre id=\"15\"><code id=\"16\"/></pre><hr id=\"17\"/><p id=\"18\"><em id=\"19\"/>"
            + "<strong id=\"20\"/><a href=\"\" id=\"21\"/><br id=\"22\"/><img src=\"\" alt=\"\" id=\"\"/></p></body></html>");
        notInBody("|<p ID=\"1\"/>");
        notInBody("|<p i=\"1\"/>");
        notInBody("|<p id=\"1\" idd=\"1\"/>");
    }

    /** Every element of a page with every attribute of a page, and some of none. */
    private static void onlyWhereTold() {
        Desk.sentence("Attributes: (each where it is told, and nowhere else)");
        String all = "<html><head><title/></head><body><p><em/><strong/><code/><a href=\"\"/><br/><img src=\"\" alt=\"\"/></p>"
            + "<h1/><h2/><h3/><h4/><h5/><h6/><hr/><pre><code/></pre><blockquote/><ul><li/></ul><ol/></body></html>";
        for (int at = all.indexOf('<'); at >= 0; at = all.indexOf('<', at + 1)) {
            int past = at + 1;
            while (Character.isLetterOrDigit(all.charAt(past))) {
                past++;
            }
            String name = all.substring(at + 1, past);
            String tag = all.substring(at, all.indexOf('>', at));
            for (String attribute : new String[] {"id", "href", "title", "src", "alt", "class", "start", "lang", "style"}) {
                if (!name.isEmpty() && !tag.contains(" " + attribute + "=")) {
                    String changed = " " + attribute + "=\"1\"" + all.substring(past);
                    withAttribute(all.substring(0, at), "<" + name + changed, isTold(name, attribute));
                }
            }
        }
    }

    private static void withAttribute(String ahead, String element, boolean told) {
        if (told) {
            Desk.page(ahead + element);
        } else {
            Desk.noPage(ahead + "|" + element);
        }
    }

    private static boolean isTold(String name, String attribute) {
        String place = name + " " + attribute;
        return attribute.equals("id") || place.equals("a title") || place.equals("img title")
            || place.equals("code class") || place.equals("ol start");
    }

    private static void onA() {
        Desk.sentence("href (which it must have) and title on a");
        inBody("<p><a href=\"\"/></p>");
        inBody("<p><a title=\"\" href=\"\"/></p>");
        notInBody("<p>|<a/></p>");
        notInBody("<p>|<a title=\"\"/></p>");
        notInBody("<p>|<a id=\"\" hrefs=\"\"/></p>");
        notInBody("<p>|<a href=\"\" start=\"1\"/></p>");
        notInBody("|<p href=\"\"/>");
        notInBody("|<p title=\"\"/>");
        notInBody("<p>|<em href=\"\"/></p>");
    }

    private static void onImg() {
        Desk.sentence("src and alt (both must be), title on img");
        inBody("<p><img src=\"\" alt=\"\"/></p>");
        inBody("<p><img title=\"\" alt=\"\" src=\"\"/></p>");
        notInBody("<p>|<img/></p>");
        notInBody("<p>|<img src=\"\"/></p>");
        notInBody("<p>|<img alt=\"\"/></p>");
        notInBody("<p>|<img title=\"\"/></p>");
        notInBody("<p>|<img src=\"\" alt=\"\" href=\"\"/></p>");
        notInBody("<p>|<a href=\"\" src=\"\"/></p>");
        notInBody("<p>|<a href=\"\" alt=\"\"/></p>");
    }

    private static void onCode() {
        Desk.sentence("class on code");
        inBody("<p><code class=\"\"/></p>");
        inBody("<pre><code class=\"c\"/></pre>");
        notInBody("|<pre class=\"\"><code/></pre>");
        notInBody("<p>|<code title=\"\"/></p>");
        notInBody("<p>|<em class=\"\"/></p>");
    }

    private static void start() {
        Desk.sentence("start on ol, 1 .. 9 digits");
        notInBody("|<ol start=\"\"/>");
        for (int digits = 1; digits <= 9; digits++) {
            inBody("<ol start=\"" + "0".repeat(digits) + "\"/>");
            inBody("<ol start=\"" + "9".repeat(digits) + "\"/>");
        }
        notInBody("|<ol start=\"0000000001\"/>");
        notInBody("|<ol start=\"9999999999\"/>");
        notInBody("|<ol start=\"4294967297\"/>");
        notInBody("|<ol start=\"" + "1".repeat(3000) + "\"/>");
        for (String wrong : new String[] {"-1", "+1", " 1", "1 ", "/", ":", "a", "0x1", "1.0"}) {
            notInBody("|<ol start=\"" + wrong + "\"/>");
        }
        notInBody("|<ul start=\"1\"/>");
        notInBody("<ol>|<li start=\"1\"/></ol>");
    }

    private static void idTwice() {
        Desk.sentence("no id twice (the later one is wrong)");
        notInBody("<p id=\"a\"/>|<p id=\"a\"/>");
        notInBody("<p id=\"a\"/>|<p id=\"a\"/><p id=\"a\"/>");
        notInBody("<p id=\"a\">|<em id=\"a\"/></p>");
        notInBody("<p id=\"\"/>|<p id=\"\"/>");
        notInBody("<p id=\"&lt;\"/>|<p id=\"&#60;\"/>");
        Desk.noPage("<html id=\"a\">|<head id=\"a\"><title/></head><body/></html>");
        inBody("<p id=\"a\"/><p id=\"A\"/><p id=\"aa\"/><p id=\" a\"/><p id=\"\"/>");
        StringBuilder many = new StringBuilder();
        for (int i = 0; i < 200; i++) {
            many.append("<p id=\"").append(i).append("\"/>");
        }
        inBody(many.toString());
        notInBody(many + "|<p id=\"0\"/>");
        notInBody(many + "|<p id=\"199\"/>");
        inBody(many + "<p id=\"200\"/>");
    }

    private static void links() {
        Desk.sentence("FAULT 3, at the < of the first a whose href begins with # and is not followed by an element's id");
        Desk.linked("<x/>");
        Desk.linked("<a/>");
        Desk.linked("<a href=\"\"/>");
        Desk.linked("<a href=\"b#\"/>");
        Desk.notLinked("|<a href=\"#\"/>");
        Desk.notLinked("|<a href=\"#\" id=\"#\"/>");
        Desk.linked("<a href=\"#\" id=\"\"/>");
        Desk.linked("<a href=\"#b\" id=\"b\"/>");
        Desk.notLinked("|<a href=\"#b\" id=\"\"/>");
        Desk.notLinked("|<a href=\"#b\" id=\"bc\"/>");
        Desk.notLinked("|<a href=\"#bc\" id=\"b\"/>");
        Desk.notLinked("|<a href=\"##b\" id=\"b\"/>");
        Desk.linked("<x>" + "<a href=\"#b\"/>".repeat(280) + "<b id=\"b\"/></x>");
        Desk.notLinked("<x id=\"b\">" + "<a href=\"#b\"/>".repeat(200) + "|<a href=\"#c\"/><a href=\"#d\"/></x>");
        Desk.linked("<x><b href=\"#c\"/><A href=\"#c\"/></x>");
    }

    private static void pageOfNothing() {
        Desk.sentence("isPage: IllegalStateException: nothing is read.");
        PlainPages pages = new PlainPages();
        Desk.due("isPage() of a new one", Desk.isPage(pages), "IllegalStateException");
        Desk.lay(pages, "<a/>");
        Desk.due("isPage() ahead of read()", Desk.isPage(pages), "IllegalStateException");
        Desk.due("read()", Desk.read(pages), "1");
        Desk.due("isPage()", Desk.isPage(pages), "false");
        pages.wipe();
        Desk.due("isPage() behind wipe()", Desk.isPage(pages), "false");
        Desk.due("read()", Desk.read(pages), "IllegalArgumentException");
        Desk.due("isPage() behind a fault", Desk.isPage(pages), "IllegalStateException");
        Desk.due("fault(0) is read()'s still", pages.fault(0), 1);
        Desk.due("fault(1) is read()'s still", pages.fault(1), 0);
    }

    private static void linksOfNothing() {
        Desk.sentence("isLinked: IllegalStateException: nothing is read.");
        PlainPages pages = new PlainPages();
        Desk.due("isLinked() of a new one", Desk.isLinked(pages), "IllegalStateException");
        Desk.lay(pages, "<a/>");
        Desk.due("isLinked() ahead of read()", Desk.isLinked(pages), "IllegalStateException");
        Desk.due("read()", Desk.read(pages), "1");
        Desk.due("isLinked()", Desk.isLinked(pages), "true");
        pages.wipe();
        Desk.due("isLinked() behind wipe()", Desk.isLinked(pages), "true");
        Desk.due("read()", Desk.read(pages), "IllegalArgumentException");
        Desk.due("isLinked() behind a fault", Desk.isLinked(pages), "IllegalStateException");
        Desk.due("fault(0) is read()'s still", pages.fault(0), 1);
        Desk.due("fault(1) is read()'s still", pages.fault(1), 0);
    }

    private static void linksOfNoPage() {
        Desk.sentence("Whether all LINKS lead somewhere (also if it is no PAGE).");
        PlainPages pages = Desk.reading("<x><a href=\"#b\"/><y id=\"b\"/><y id=\"b\"/></x>");
        Desk.due("isPage()", Desk.isPage(pages), "false");
        Desk.due("isLinked()", Desk.isLinked(pages), "true");
        Desk.due("fault(0)", pages.fault(0), 0);
        Desk.due("isPage()", Desk.isPage(pages), "false");
        Desk.due("fault(0)", pages.fault(0), 2);
        pages = Desk.reading("<x><y/><a href=\"#b\"/></x>");
        Desk.due("isPage()", Desk.isPage(pages), "false");
        Desk.due("isLinked()", Desk.isLinked(pages), "false");
        Desk.due("fault(0)", pages.fault(0), 3);
        Desk.due("fault(1)", pages.fault(1), 7);
    }
}
