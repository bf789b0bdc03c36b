import java.io.ByteArrayOutputStream;
import java.nio.ByteBuffer;
import java.nio.CharBuffer;
import java.nio.charset.CharacterCodingException;
import java.nio.charset.StandardCharsets;
import java.util.ArrayList;
import java.util.Arrays;
import java.util.HashMap;
import java.util.HashSet;
import java.util.LinkedHashMap;
import java.util.List;
import java.util.Map;
import java.util.Set;
import java.util.regex.Matcher;
import java.util.regex.Pattern;

/** The document once more, written in another way (recursion, patterns, the library), to compare with. */
final class Model {
    /** A fault of reading, thrown where it is found. */
    private static final class Wrong extends Exception {
        private static final long serialVersionUID = 1L;
        final int place;

        Wrong(int place) {
            this.place = place;
        }
    }

    private static final class Part {
        String name;
        String text = "";
        Part holder;
        int begin;
        int depth;
        final Map<String, String> values = new LinkedHashMap<>();
        final List<Integer> begins = new ArrayList<>();
        final List<Part> held = new ArrayList<>();

        boolean isText() {
            return name == null;
        }
    }

    private static final String BLOCKS = "p|h[1-6]|hr|pre|blockquote|ul|ol";
    private static final String INLINES = "em|strong|code|a|br|img";
    private static final Pattern NAME = Pattern.compile("[A-Za-z_][A-Za-z0-9_.:-]*");
    private static final Pattern REFERENCE =
        Pattern.compile("&(?:(amp|lt|gt|quot|apos)|#([0-9]{1,7})|#[xX]([0-9A-Fa-f]{1,6}));");
    private static final String DECLARATION = "<?xml version=\"1.0\" encoding=\"UTF-8\"?>";

    private byte[] ready = new byte[20];
    private String tape = "";
    private List<Part> parts = new ArrayList<>();
    private int fault = 0;
    private int place = -1;
    private byte[] output = new byte[0];
    private int at;

    void feed(int a, int b, int c, int d, int e) {
        ready = ByteBuffer.allocate(20).putInt(a).putInt(b).putInt(c).putInt(d).putInt(e).array();
    }

    int end(int n) {
        if (n < 0 || n > 20 || tape.length() + n > 4000) {
            return -1;
        }
        tape += new String(Arrays.copyOf(ready, n), StandardCharsets.ISO_8859_1);
        ready = new byte[20];
        return tape.length();
    }

    void wipe() {
        tape = "";
    }

    int read() {
        parts = new ArrayList<>();
        fault = 0;
        place = -1;
        try {
            at = tape.startsWith(DECLARATION) ? 38 : 0;
            white();
            element(null);
            white();
            if (at < tape.length()) {
                throw new Wrong(at);
            }
        } catch (Wrong wrong) {
            parts = new ArrayList<>();
            fault = 1;
            place = wrong.place;
            throw new IllegalArgumentException();
        }
        return parts.size();
    }

    private boolean stands(String text) {
        return tape.startsWith(text, at);
    }

    private void expect(String text) throws Wrong {
        for (char c : text.toCharArray()) {
            if (at >= tape.length() || tape.charAt(at) != c) {
                throw new Wrong(at);
            }
            at++;
        }
    }

    private boolean white() {
        int before = at;
        while (at < tape.length() && "\t\n\r ".indexOf(tape.charAt(at)) >= 0) {
            at++;
        }
        return at > before;
    }

    private String name() throws Wrong {
        Matcher matcher = NAME.matcher(tape).region(at, tape.length());
        if (!matcher.lookingAt()) {
            throw new Wrong(at);
        }
        if (matcher.group().length() > 30) {
            throw new Wrong(at + 30);
        }
        at = matcher.end();
        return matcher.group();
    }

    private Part part(Part holder) {
        Part part = new Part();
        part.holder = holder;
        part.begin = at;
        part.depth = holder == null ? 1 : holder.depth + 1;
        if (holder != null) {
            holder.held.add(part);
        }
        parts.add(part);
        return part;
    }

    private void element(Part holder) throws Wrong {
        long elements = parts.stream().filter(part -> !part.isText()).count();
        if (holder != null && (holder.depth == 40 || elements == 300)) {
            throw new Wrong(at);
        }
        Part part = part(holder);
        expect("<");
        part.name = name();
        boolean white = white();
        while (white && NAME.matcher(tape).region(at, tape.length()).lookingAt()) {
            int begin = at;
            String name = name();
            if (part.values.containsKey(name)) {
                throw new Wrong(begin);
            }
            expect("=\"");
            part.values.put(name, characters("\"<"));
            part.begins.add(begin);
            expect("\"");
            white = white();
        }
        if (stands("/")) {
            expect("/>");
            return;
        }
        expect(">");
        content(part);
        expect("</");
        int begin = at;
        if (!name().equals(part.name)) {
            throw new Wrong(begin);
        }
        white();
        expect(">");
    }

    private void content(Part part) throws Wrong {
        while (!stands("</") && at < tape.length()) {
            if (stands("<")) {
                element(part);
            } else {
                part(part).text = characters("<");
            }
        }
    }

    private String characters(String stops) throws Wrong {
        StringBuilder text = new StringBuilder();
        while (at < tape.length() && stops.indexOf(tape.charAt(at)) < 0) {
            text.appendCodePoint(stands("&") ? reference() : character());
        }
        return text.toString();
    }

    private int reference() throws Wrong {
        Matcher matcher = REFERENCE.matcher(tape).region(at, tape.length());
        if (!matcher.lookingAt()) {
            throw new Wrong(at);
        }
        int code;
        if (matcher.group(1) != null) {
            code = "&<>\"'".charAt(Arrays.asList("amp", "lt", "gt", "quot", "apos").indexOf(matcher.group(1)));
        } else if (matcher.group(2) != null) {
            code = Integer.parseInt(matcher.group(2));
        } else {
            code = Integer.parseInt(matcher.group(3), 16);
        }
        if (code > 1114111 || code >= 55296 && code <= 57343 || forbidden(code)) {
            throw new Wrong(at);
        }
        at = matcher.end();
        return code;
    }

    private int character() throws Wrong {
        for (int length = 1; length <= 4 && at + length <= tape.length(); length++) {
            String text = decoded(tape.substring(at, at + length));
            if (text != null) {
                if (forbidden(text.codePointAt(0))) {
                    throw new Wrong(at);
                }
                at += length;
                return text.codePointAt(0);
            }
        }
        throw new Wrong(at);
    }

    private static boolean forbidden(int code) {
        return code < 32 && code != 9 && code != 10 && code != 13 || code == 65534 || code == 65535;
    }

    private static String decoded(String bytes) {
        try {
            CharBuffer text = StandardCharsets.UTF_8.newDecoder()
                .decode(ByteBuffer.wrap(bytes.getBytes(StandardCharsets.ISO_8859_1)));
            return text.toString();
        } catch (CharacterCodingException e) {
            return null;
        }
    }

    boolean isPage() {
        needRead();
        fault = 0;
        place = -1;
        Set<String> ids = new HashSet<>();
        for (Part part : parts) {
            if (!part.isText() && !(fits(part) && (part.values.get("id") == null || ids.add(part.values.get("id"))))) {
                fault = 2;
                place = part.begin;
                return false;
            }
        }
        return true;
    }

    private void needRead() {
        if (parts.isEmpty()) {
            throw new IllegalStateException();
        }
    }

    private static boolean fits(Part part) {
        return mayBe(part) && attributesFit(part) && mustHold(part) && textFits(part);
    }

    private static boolean mayBe(Part part) {
        if (part.holder == null) {
            return part.name.equals("html");
        }
        for (Part around = part.holder; around != null; around = around.holder) {
            if (part.name.equals("a") && around.name.equals("a")) {
                return false;
            }
        }
        return part.name.matches(heldIn(part.holder.name));
    }

    private static String heldIn(String name) {
        switch (name) {
            case "html":
                return "head|body";
            case "head":
                return "title";
            case "body":
            case "blockquote":
                return BLOCKS;
            case "ul":
            case "ol":
                return "li";
            case "li":
                return BLOCKS + "|" + INLINES;
            case "pre":
                return "code";
            case "title":
            case "code":
            case "hr":
            case "br":
            case "img":
                return "!";
            default:
                return INLINES;
        }
    }

    private static boolean attributesFit(Part part) {
        Map<String, String> may = new HashMap<>();
        may.put("a", "id|href|title");
        may.put("img", "id|src|alt|title");
        may.put("code", "id|class");
        may.put("ol", "id|start");
        for (String name : part.values.keySet()) {
            if (!name.matches(may.getOrDefault(part.name, "id"))) {
                return false;
            }
        }
        if (part.name.equals("a")) {
            return part.values.containsKey("href");
        }
        if (part.name.equals("img")) {
            return part.values.containsKey("src") && part.values.containsKey("alt");
        }
        return part.values.getOrDefault("start", "1").matches("[0-9]{1,9}");
    }

    private static boolean mustHold(Part part) {
        StringBuilder held = new StringBuilder();
        for (Part child : part.held) {
            held.append(child.isText() ? "" : child.name + " ");
        }
        switch (part.name) {
            case "html":
                return held.toString().equals("head body ");
            case "head":
                return held.toString().equals("title ");
            case "pre":
                return held.toString().equals("code ");
            default:
                return true;
        }
    }

    private static boolean textFits(Part part) {
        String textIn = "title|li|p|h[1-6]|em|strong|a|code";
        String may = part.name.matches(textIn) ? "(?s).*" : part.name.matches("hr|br|img") ? "" : "[\t\n\r ]*";
        for (Part child : part.held) {
            if (child.isText() && !child.text.matches(may)) {
                return false;
            }
        }
        return true;
    }

    boolean isLinked() {
        needRead();
        fault = 0;
        place = -1;
        Set<String> targets = new HashSet<>();
        for (Part part : parts) {
            if (part.values.containsKey("id")) {
                targets.add("#" + part.values.get("id"));
            }
        }
        for (Part part : parts) {
            String href = part.values.getOrDefault("href", "");
            if ("a".equals(part.name) && href.startsWith("#") && !targets.contains(href)) {
                fault = 3;
                place = part.begin;
                return false;
            }
        }
        return true;
    }

    int fault(int what) {
        return what == 0 ? fault : what == 1 ? place : -1;
    }

    private Part at(int k) {
        return k >= 0 && k < parts.size() ? parts.get(k) : null;
    }

    private static int length(String text) {
        return text.codePointCount(0, text.length());
    }

    private static int code(String text, int i) {
        return i < 0 || i >= length(text) ? -1 : text.codePoints().toArray()[i];
    }

    private static String words(Part part) {
        return part.isText() ? part.text : part.name;
    }

    int node(int k, int what) {
        Part part = at(k);
        if (part == null) {
            return -1;
        }
        switch (what) {
            case 0:
                return part.isText() ? 0 : 1;
            case 1:
                return parts.indexOf(part.holder);
            case 2:
                return part.begin;
            case 3:
                return length(words(part));
            case 4:
                return part.values.size();
            case 5:
                List<Part> row = part.holder == null ? new ArrayList<>(List.of(part)) : part.holder.held;
                int next = row.indexOf(part) + 1;
                return next < row.size() ? parts.indexOf(row.get(next)) : -1;
            case 6:
                return part.held.isEmpty() ? -1 : parts.indexOf(part.held.get(0));
            case 7:
                return part.depth;
            default:
                return -1;
        }
    }

    int letter(int k, int i) {
        Part part = at(k);
        return part == null ? -1 : code(words(part), i);
    }

    private String attributeName(int k, int j) {
        Part part = at(k);
        return part == null || j < 0 || j >= part.values.size() ? null : new ArrayList<>(part.values.keySet()).get(j);
    }

    int attribute(int k, int j, int what) {
        String name = attributeName(k, j);
        if (name == null) {
            return -1;
        }
        return what == 0 ? length(name) : what == 1 ? length(at(k).values.get(name))
            : what == 2 ? at(k).begins.get(j) : -1;
    }

    int sign(int k, int j, boolean value, int i) {
        String name = attributeName(k, j);
        return name == null ? -1 : code(value ? at(k).values.get(name) : name, i);
    }

    int find() {
        String wanted = decoded(tape);
        for (Part part : parts) {
            if (wanted != null && wanted.equals(part.values.get("id"))) {
                return parts.indexOf(part);
            }
        }
        return -1;
    }

    int plain(int k) {
        if (at(k) == null) {
            throw new IndexOutOfBoundsException();
        }
        return put(plain(at(k)));
    }

    private static String plain(Part part) {
        if (part.isText()) {
            return part.text;
        }
        if (part.name.equals("br")) {
            return "\n";
        }
        if (part.name.equals("img")) {
            return part.values.getOrDefault("alt", "");
        }
        StringBuilder text = new StringBuilder();
        part.held.forEach(child -> text.append(plain(child)));
        return text.toString();
    }

    int write(int k) {
        if (at(k) == null) {
            throw new IndexOutOfBoundsException();
        }
        return put(written(at(k)));
    }

    private static String written(Part part) {
        if (part.isText()) {
            return told(part.text);
        }
        StringBuilder text = new StringBuilder("<" + part.name);
        part.values.forEach((name, value) -> text.append(" " + name + "=\"" + told(value) + "\""));
        if (part.held.isEmpty()) {
            return text + "/>";
        }
        text.append(">");
        part.held.forEach(child -> text.append(written(child)));
        return text + "</" + part.name + ">";
    }

    private static String told(String text) {
        return text.replace("&", "&amp;").replace("<", "&lt;").replace(">", "&gt;").replace("\"", "&quot;");
    }

    private int put(String text) {
        ByteArrayOutputStream bytes = new ByteArrayOutputStream();
        bytes.writeBytes(text.getBytes(StandardCharsets.UTF_8));
        output = bytes.toByteArray();
        return output.length;
    }

    int output(int i) {
        return i >= 0 && i < output.length ? output[i] & 255 : -1;
    }

    int about(int what) {
        switch (what) {
            case 0:
                return tape.length();
            case 1:
                return parts.size();
            case 2:
                return (int) parts.stream().filter(part -> !part.isText()).count();
            case 3:
                return output.length;
            default:
                return -1;
        }
    }
}
