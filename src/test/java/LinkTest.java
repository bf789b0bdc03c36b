/** Promise 7: isLinked. A | marks the a whose link leads nowhere. */
public final class LinkTest {
    public static void main(String[] args) {
        Desk.linked("<x/>");
        Desk.linked("<a/>");
        Desk.linked("<a href=\"\"/>");
        Desk.linked("<a href=\"b\"/>");
        Desk.linked("<a href=\"x#b\"/>");
        Desk.linked("<a href=\" #b\"/>");
        Desk.linked("<a href=\"#b\" id=\"b\"/>");
        Desk.linked("<x><a href=\"#b\"/><y id=\"b\"/></x>");
        Desk.linked("<x id=\"b\"><a href=\"#b\"/></x>");
        Desk.linked("<x><a href=\"&#35;&#98;c\"/><y id=\"b&#x63;\"/></x>");
        Desk.linked("<x><a href=\"#\"/><y id=\"\"/></x>");
        Desk.linked("<x><a href=\"##\"/><y id=\"#\"/></x>");
        Desk.linked("<x><b href=\"#q\"/><A href=\"#q\"/><a HREF=\"#q\"/><aa href=\"#q\"/><a src=\"#q\"/></x>");
        Desk.linked("<x><a href=\"#" + Desk.utf8("\u20ac") + "\"/><y id=\"&#x20ac;\"/></x>");
        Desk.linked("<x><y id=\"1\"/><y id=\"2\"/><y id=\"2\"/><a href=\"#2\"/><a href=\"#1\"/></x>");
        Desk.notLinked("|<a href=\"#\"/>");
        Desk.notLinked("|<a href=\"#b\"/>");
        Desk.notLinked("<x>|<a href=\"#b\"/><y id=\"c\"/></x>");
        Desk.notLinked("<x>|<a href=\"#b\"/><y id=\"B\"/></x>");
        Desk.notLinked("<x>|<a href=\"#b\"/><y id=\"bb\"/></x>");
        Desk.notLinked("<x>|<a href=\"#bb\"/><y id=\"b\"/></x>");
        Desk.notLinked("<x>|<a href=\"#b\"/><y id=\"#b\"/></x>");
        Desk.notLinked("<x>|<a href=\"#b\"/><y ID=\"b\" idd=\"b\" class=\"b\"/></x>");
        Desk.notLinked("<x>|<a href=\"#b\"/>b<y id=\"\"/></x>");
        Desk.notLinked("<x><a href=\"#y\"/>|<a href=\"#b\"/><a href=\"#c\"/><y id=\"y\"/></x>");
        Desk.notLinked("<x><y>|<a href=\"#b\"><a href=\"#c\"/></a></y></x>");
        Desk.notLinked("<x>t|<a title=\"\" href=\"#b\">#b</a></x>");
        ofPages();
        Desk.close("LinkTest");
    }

    private static void ofPages() {
        String page = "<html><head><title/></head><body><p>|<a href=\"#b\"/></p><p id=\"c\"/></body></html>";
        Desk.notLinked(page);
        Desk.linked(page.replace("|", "").replace("#b", "#c"));
        PlainPages pages = Desk.reading(page.replace("|", ""));
        Desk.due("isPage()", Desk.isPage(pages), "true");
        Desk.due("isLinked()", Desk.isLinked(pages), "false");
        Desk.due("isPage()", Desk.isPage(pages), "true");
        Desk.due("fault(0)", pages.fault(0), 0);
        Desk.due("fault(1)", pages.fault(1), -1);
    }
}
