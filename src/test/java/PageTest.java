/** Promise 6: isPage. A | marks the element that is wrong. */
public final class PageTest {
    private static final String HEAD = "<html><head><title/></head><body>";
    private static final String SHUT = "</body></html>";
    private static final String[] BLOCKS = {"p", "h1", "h2", "h3", "h4", "h5", "h6", "hr", "pre", "blockquote", "ul", "ol"};
    private static final String[] INLINES = {"em", "strong", "code", "a", "br", "img"};

    public static void main(String[] args) {
        wholes();
        heads();
        places();
        pres();
        emptyOnes();
        texts();
        anchors();
        attributes();
        ids();
        firstOfSeveral();
        Desk.close("PageTest");
    }

    private static void inBody(String bytes) {
        Desk.page(HEAD + bytes + SHUT);
    }

    private static void notInBody(String marked) {
        Desk.noPage(HEAD + marked + SHUT);
    }

    /** The element of a name, as it may be. */
    private static String whole(String name) {
        switch (name) {
            case "a":
                return "<a href=\"\"/>";
            case "img":
                return "<img src=\"\" alt=\"\"/>";
            case "pre":
                return "<pre><code/></pre>";
            default:
                return "<" + name + "/>";
        }
    }

    private static void wholes() {
        inBody("");
        Desk.page("\n<html>\n<head>\t<title>T &amp; t</title>\r</head> <body id=\"b\"> <p>x</p>\n</body> </html>\n");
        Desk.noPage("|<body/>");
        Desk.noPage("|<p/>");
        Desk.noPage("|<x/>");
        Desk.noPage("|<HTML><head><title/></head><body/></HTML>");
        Desk.noPage("|<html/>");
        Desk.noPage("|<html><head><title/></head></html>");
        Desk.noPage("|<html><body/></html>");
        Desk.noPage("|<html><body/><head><title/></head></html>");
        Desk.noPage("|<html><head><title/></head><body/><body/></html>");
        Desk.noPage("|<html><head><title/></head><head><title/></head><body/></html>");
        Desk.noPage("|<html><head><title/></head><p/><body/></html>");
        Desk.noPage("|<html><x/><head><title/></head><body/></html>");
        Desk.noPage("|<html><head><title/></head><body/>x</html>");
        Desk.noPage("|<html>x<head><title/></head><body/></html>");
        Desk.noPage("|<head><title/></head>");
        String inner = "|<html><head><title/></head><body/></html>";
        notInBody(inner);
        notInBody("<blockquote>" + inner + "</blockquote>");
        notInBody("<ul>" + inner + "</ul>");
        notInBody("<ol><li>" + inner + "</li></ol>");
        notInBody("<p>" + inner + "</p>");
        notInBody("<p><code>" + inner + "</code></p>");
        notInBody("<hr>" + inner + "</hr>");
        notInBody("<p><br>" + inner + "</br></p>");
        notInBody("<p><img src=\"\" alt=\"\">" + inner + "</img></p>");
        Desk.noPage("<html><head><title>" + inner + "</title></head><body/></html>");
        Desk.noPage("|<html><html/><body/></html>");
        notInBody("|<html/>");
        notInBody("|<head/>");
        notInBody("|<body/>");
        notInBody("|<title/>");
        notInBody("|<div/>");
    }

    private static void heads() {
        Desk.noPage("<html>|<head/><body/></html>");
        Desk.noPage("<html>|<head> </head><body/></html>");
        Desk.noPage("<html>|<head><title/><title/></head><body/></html>");
        Desk.noPage("<html>|<head><p/></head><body/></html>");
        Desk.noPage("<html>|<head><title/><x/></head><body/></html>");
        Desk.noPage("<html>|<head><title/>x</head><body/></html>");
        Desk.noPage("<html><head><title>|<em/></title></head><body/></html>");
        Desk.noPage("<html><head><title>x|<br/></title></head><body/></html>");
        Desk.page("<html><head><title>x</title></head><body/></html>");
    }

    private static void places() {
        for (String block : BLOCKS) {
            inBody(whole(block));
            inBody("<blockquote>" + whole(block) + whole(block) + "</blockquote>");
            inBody("<ul><li>" + whole(block) + "</li></ul>");
            notInBody("<p>|" + whole(block) + "</p>");
            notInBody("<p><em>|" + whole(block) + "</em></p>");
            notInBody("<ul>|" + whole(block) + "</ul>");
            notInBody("<ol>|" + whole(block) + "</ol>");
            notInBody("<p><a href=\"\">|" + whole(block) + "</a></p>");
        }
        for (String inline : INLINES) {
            notInBody("|" + whole(inline));
            notInBody("<blockquote>|" + whole(inline) + "</blockquote>");
            notInBody("<ul>|" + whole(inline) + "</ul>");
            inBody("<ol><li>x" + whole(inline) + "<p/></li></ol>");
            for (String around : new String[] {"p", "h1", "h2", "h3", "h4", "h5", "h6"}) {
                inBody("<" + around + ">x" + whole(inline) + "y</" + around + ">");
            }
            inBody("<p><em>" + whole(inline) + "</em></p>");
            inBody("<p><strong>" + whole(inline) + "</strong></p>");
            notInBody("<p><code>|" + whole(inline) + "</code></p>");
        }
        for (String inline : new String[] {"em", "strong", "code", "br", "img"}) {
            inBody("<p><a href=\"\">x" + whole(inline) + "</a></p>");
        }
        inBody("<ul/><ol/>");
        inBody("<ul><li/><li>x</li></ul>");
        notInBody("|<li/>");
        notInBody("<ul><li>|<li/></li></ul>");
        notInBody("<p>|<li/></p>");
        notInBody("<ul><li>|<x/></li></ul>");
        notInBody("<p>|<P/></p>");
        notInBody("|<h7/>");
        notInBody("|<h0/>");
    }

    private static void pres() {
        inBody("<pre><code>x</code></pre>");
        inBody("<pre> <code/>\n</pre>");
        notInBody("|<pre/>");
        notInBody("|<pre>x</pre>");
        notInBody("|<pre><em/></pre>");
        notInBody("|<pre><code/><code/></pre>");
        notInBody("|<pre><code/><br/></pre>");
        notInBody("|<pre>x<code/></pre>");
        notInBody("<pre><code>|<em/></code></pre>");
    }

    private static void emptyOnes() {
        for (String name : new String[] {"hr", "br", "img"}) {
            String begin = whole(name).replace("/>", ">");
            String shut = "</" + name + ">";
            boolean block = name.equals("hr");
            String ahead = block ? "" : "<p>";
            String behind = block ? "" : "</p>";
            inBody(ahead + begin + shut + behind);
            notInBody(ahead + "|" + begin + " " + shut + behind);
            notInBody(ahead + "|" + begin + "x" + shut + behind);
            notInBody(ahead + "|" + begin + "<br/>x" + shut + behind);
            notInBody(ahead + begin + "|<br/>" + shut + behind);
            notInBody(ahead + begin + "|<em/>" + shut + behind);
            notInBody(ahead + begin + "|<p/>" + shut + behind);
        }
    }

    private static void texts() {
        Desk.noPage("<html><head><title/></head>|<body>x</body></html>");
        Desk.noPage("<html><head><title/></head>|<body><p/>x</body></html>");
        Desk.noPage("<html><head><title/></head>|<body> <p/> \u00c2\u00a0</body></html>");
        inBody("\n<p/>\t<p/>\r ");
        inBody("&#32;<p/>&#xA;&#9;&#13;");
        notInBody("|<blockquote>x</blockquote>");
        notInBody("|<ul>x</ul>");
        notInBody("|<ol><li/> x </ol>");
        inBody("<blockquote> <p/> </blockquote><ul> <li/> </ul><ol> </ol>");
        for (String around : new String[] {"p", "h1", "h2", "h3", "h4", "h5", "h6"}) {
            inBody("<" + around + ">x</" + around + ">");
        }
        inBody("<p>a<em>b</em><strong>c</strong><code>d</code><a href=\"e\">f</a></p>");
        inBody("<ul><li>x</li></ul>");
    }

    private static void anchors() {
        notInBody("<p><a href=\"\">|<a href=\"\"/></a></p>");
        notInBody("<p><a href=\"\"><em>|<a href=\"\"/></em></a></p>");
        notInBody("<p><a href=\"\"><em><strong>x|<a href=\"\">y</a></strong></em></a></p>");
        inBody("<p><a href=\"\"/><a href=\"\"/></p>");
        inBody("<p><a href=\"\"><em/></a><em><a href=\"\"/></em></p>");
    }

    private static void attributes() {
        Desk.page("<html id=\"1\"><head id=\"2\"><title id=\"3\"/></head><body id=\"4\"><p id=\"\"/></body></html>");
        Desk.noPage("|<html lang=\"en\"><head><title/></head><body/></html>");
        Desk.noPage("<html><head>|<title title=\"\"/></head><body/></html>");
        for (String name : BLOCKS) {
            inBody(whole(name).replaceFirst("<" + name, "<" + name + " id=\"i\""));
            for (String wrong : new String[] {"class", "title", "href", "src", "alt", "style", "ID", "Id", "i", "idd"}) {
                notInBody("|" + whole(name).replaceFirst("<" + name, "<" + name + " " + wrong + "=\"1\""));
            }
        }
        for (String name : new String[] {"em", "strong", "code", "br"}) {
            inBody("<p><" + name + " id=\"i\"/></p>");
            for (String wrong : new String[] {"start", "title", "href", "src", "alt", "x"}) {
                notInBody("<p>|<" + name + " " + wrong + "=\"1\"/></p>");
            }
        }
        notInBody("<p>|<em class=\"1\"/></p>");
        notInBody("<ul>|<li start=\"1\"/></ul>");
        inBody("<p><code class=\"x\"/></p>");
        inBody("<pre><code class=\"\" id=\"c\"/></pre>");
        anchorAttributes();
        imageAttributes();
        starts();
    }

    private static void anchorAttributes() {
        inBody("<p><a title=\"t\" href=\"h\" id=\"i\"/></p>");
        notInBody("<p>|<a/></p>");
        notInBody("<p>|<a title=\"t\"/></p>");
        notInBody("<p>|<a href=\"h\" class=\"c\"/></p>");
        notInBody("<p>|<a href=\"h\" src=\"c\"/></p>");
        notInBody("<p>|<a href=\"h\" alt=\"c\"/></p>");
        notInBody("<p>|<a HREF=\"h\"/></p>");
    }

    private static void imageAttributes() {
        inBody("<p><img title=\"t\" alt=\"a\" id=\"i\" src=\"s\"/></p>");
        notInBody("<p>|<img/></p>");
        notInBody("<p>|<img src=\"\"/></p>");
        notInBody("<p>|<img alt=\"\"/></p>");
        notInBody("<p>|<img title=\"\" src=\"\"/></p>");
        notInBody("<p>|<img src=\"\" alt=\"\" href=\"\"/></p>");
        notInBody("<p>|<img src=\"\" alt=\"\" class=\"\"/></p>");
    }

    private static void starts() {
        for (String good : new String[] {"0", "1", "9", "000000000", "123456789", "&#49;"}) {
            inBody("<ol start=\"" + good + "\"/>");
        }
        for (String wrong : new String[] {"", " ", "-1", "+1", "1 ", " 1", "a", "1a", "1234567890", "/", ":", "1.5",
            "\u00d9\u00a1"}) {
            notInBody("|<ol start=\"" + wrong + "\"/>");
        }
        notInBody("|<ul start=\"1\"/>");
        notInBody("<ol>|<li start=\"1\"/></ol>");
    }

    private static void ids() {
        inBody("<p id=\"a\"/><p id=\"A\"/><p id=\"aa\"/><p id=\"\"/>");
        notInBody("<p id=\"a\"/>|<p id=\"a\"/>");
        notInBody("<p id=\"a\">|<em id=\"a\"/></p>");
        notInBody("<p id=\"a\"/><p id=\"b\"/><p>|<em id=\"&#97;\"/></p>");
        notInBody("<p id=\"\"/>|<p id=\"\"/>");
        Desk.noPage("<html id=\"a\"><head>|<title id=\"a\"/></head><body/></html>");
        Desk.noPage("<html id=\"a\"><head><title/></head>|<body id=\"a\"/></html>");
        inBody("<p id=\"a\"/><p><a href=\"a\" title=\"a\"/></p>");
    }

    private static void firstOfSeveral() {
        notInBody("<p>|<a/></p><x/>");
        notInBody("|<pre>x<x/></pre>");
        notInBody("<ul><li>|<x><y/></x></li>z</ul>".replace(">z<", "><"));
        notInBody("|<ul><x/>z</ul>");
        Desk.noPage("<html><head><title/></head>|<body><x/>t</body></html>");
        Desk.noPage("|<html><head/><body/><x/></html>");
    }
}
