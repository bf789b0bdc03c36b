import java.util.ArrayList;
import java.util.List;
import java.util.Random;

/** Runs of calls chosen by a fixed seed, each answer compared with the model's. */
public final class StormTest {
    private static final int RUNS = 4000;
    private static final String[] NAMES = {"html", "head", "title", "body", "p", "h1", "h6", "ul", "ol", "li", "em",
        "strong", "a", "pre", "code", "hr", "br", "img", "blockquote", "x", "_y.z:1-", "abcdefghijklmnopqrstuvwxyz0123"};
    private static final String[] BLOCKS = {"p", "h1", "h3", "hr", "pre", "blockquote", "ul", "ol"};
    private static final String[] INLINES = {"em", "strong", "code", "a", "br", "img"};
    private static final String[] ATTRIBUTES = {"id", "href", "title", "src", "alt", "class", "start", "x"};
    private static final String[] VALUES = {"", "a", "b", "#a", "#b", "#", "1", "123456789", "1234567890", "&amp;&lt;",
        "&#65;&#x20ac;", "\u20ac", "' >", "\ud83d\ude00", "&#35;a"};
    private static final String[] TEXTS = {" ", "\n\t", "t", "u v", "&amp;", "&#32;", "\u00e4", "\u20ac", "\ud83d\ude00",
        "\"'>", "&lt;&gt;&quot;&apos;", "&#x10FFFF;", "]]>"};
    private static final String[] SPOILS = {"<", ">", "/", "\"", "=", "&", ";", " ", "<?", "<!", "</", "/>", "\0",
        "\u0080", "\u00ff", "\u00e2\u0082", "\u00ef\u00bf\u00be", "&#0;", "&#xD800;", "a", "<a", "<x/>", "?", "1",
        " id=\"a\"", "<br/>", "<li/>", "&x;", "0123456789"};

    private final Random random;
    private final PlainPages pages = new PlainPages();
    private final Model model = new Model();
    private final List<String> calls = new ArrayList<>();
    private int rest = 512;
    private int room = 0;

    private StormTest(long seed) {
        random = new Random(seed);
    }

    public static void main(String[] args) {
        int wrong = 0;
        for (long seed = 0; seed < RUNS && wrong < 3; seed++) {
            StormTest storm = new StormTest(seed);
            String fault = storm.run();
            Desk.due("the run of seed " + seed, fault, "");
            if (!fault.isEmpty()) {
                wrong++;
                System.out.println(String.join("\n", storm.calls));
            }
        }
        Desk.close("StormTest");
    }

    private interface Call {
        Object on();
    }

    private static Object answer(Call call) {
        try {
            return call.on();
        } catch (RuntimeException e) {
            return e.getClass().getSimpleName();
        }
    }

    private String differs(String name, Call one, Call other) {
        rest--;
        Object got = answer(one);
        Object want = answer(other);
        calls.add(name + " -> " + got);
        return got.equals(want) ? "" : name + " answered " + got + ", due is " + want;
    }

    private String run() {
        while (rest > 0) {
            String fault = random.nextInt(3) == 0 ? lay(text()) : oddCall();
            if (fault.isEmpty()) {
                fault = look();
            }
            if (!fault.isEmpty()) {
                return fault;
            }
        }
        return "";
    }

    private String look() {
        for (int i = random.nextInt(12); i > 0; i--) {
            String fault = plainCall();
            if (!fault.isEmpty()) {
                return fault;
            }
        }
        return "";
    }

    private String lay(String bytes) {
        calls.add("lay " + bytes);
        String fault = onTape(bytes);
        fault = fault.isEmpty() ? differs("read()", () -> pages.read(), () -> model.read()) : fault;
        fault = fault.isEmpty() ? differs("fault(0)", () -> pages.fault(0), () -> model.fault(0)) : fault;
        return fault.isEmpty() ? differs("fault(1)", () -> pages.fault(1), () -> model.fault(1)) : fault;
    }

    private String onTape(String bytes) {
        pages.wipe();
        model.wipe();
        rest--;
        String fault = "";
        for (int from = 0; from < bytes.length() && fault.isEmpty(); from += 20) {
            int count = Math.min(20, bytes.length() - from);
            int[] five = Desk.five(bytes.substring(from, from + count));
            pages.feed(five[0], five[1], five[2], five[3], five[4]);
            model.feed(five[0], five[1], five[2], five[3], five[4]);
            rest--;
            fault = differs("end(" + count + ")", () -> pages.end(count), () -> model.end(count));
        }
        return fault;
    }

    private int number(int most) {
        switch (random.nextInt(12)) {
            case 0:
                return -1;
            case 1:
                return random.nextInt();
            case 2:
                return most + random.nextInt(3);
            default:
                return random.nextInt(Math.max(1, most));
        }
    }

    private String plainCall() {
        int k = number(model.about(1));
        int j = number(3);
        int i = number(8);
        int what = number(9);
        boolean value = random.nextBoolean();
        switch (random.nextInt(12)) {
            case 0:
                return differs("isPage()", () -> pages.isPage(), () -> model.isPage());
            case 1:
                return differs("isLinked()", () -> pages.isLinked(), () -> model.isLinked());
            case 2:
                return differs("fault(" + what + ")", () -> pages.fault(what), () -> model.fault(what));
            case 3:
            case 4:
                return differs("node(" + k + ", " + what + ")", () -> pages.node(k, what), () -> model.node(k, what));
            case 5:
                return differs("letter(" + k + ", " + i + ")", () -> pages.letter(k, i), () -> model.letter(k, i));
            case 6:
                return differs("attribute(" + k + ", " + j + ", " + what + ")", () -> pages.attribute(k, j, what),
                    () -> model.attribute(k, j, what));
            case 7:
                return differs("sign(" + k + ", " + j + ", " + value + ", " + i + ")",
                    () -> pages.sign(k, j, value, i), () -> model.sign(k, j, value, i));
            case 8:
                return differs("plain(" + k + ")", () -> pages.plain(k), () -> model.plain(k)) + outputs();
            case 9:
                return differs("write(" + k + ")", () -> pages.write(k), () -> model.write(k)) + outputs();
            case 10:
                return differs("about(" + what + ")", () -> pages.about(what), () -> model.about(what));
            default:
                return differs("fault(1)", () -> pages.fault(1), () -> model.fault(1));
        }
    }

    private String outputs() {
        for (int i = -1; i <= model.about(3); i++) {
            if (pages.output(i) != model.output(i)) {
                return "output(" + i + ") answered " + pages.output(i) + ", due is " + model.output(i);
            }
        }
        return "";
    }

    private String oddCall() {
        int n = number(21);
        switch (random.nextInt(4)) {
            case 0:
                int a = random.nextInt();
                int b = random.nextInt();
                pages.feed(a, b, a, b, a);
                model.feed(a, b, a, b, a);
                calls.add("feed(" + a + ", " + b + ", " + a + ", " + b + ", " + a + ")");
                rest--;
                return "";
            case 1:
                return differs("end(" + n + ")", () -> pages.end(n), () -> model.end(n));
            case 2:
                return find(one(VALUES));
            default:
                return differs("read()", () -> pages.read(), () -> model.read());
        }
    }

    private String find(String value) {
        String fault = onTape(Desk.utf8(value));
        return fault.isEmpty() ? differs("find() of " + value, () -> pages.find(), () -> model.find()) : fault;
    }

    private String one(String[] row) {
        return row[random.nextInt(row.length)];
    }

    /** The bytes of a page, of an element, or of something near to one. */
    private String text() {
        room = 10 + random.nextInt(60);
        StringBuilder text = new StringBuilder();
        if (random.nextInt(4) == 0) {
            text.append("<?xml version=\"1.0\" encoding=\"UTF-8\"?>\n");
        }
        text.append(random.nextInt(3) == 0 ? element(one(NAMES), 1, null) : page());
        String bytes = Desk.utf8(text.toString());
        for (int spoils = random.nextInt(5) - 2; spoils > 0; spoils--) {
            bytes = spoiled(bytes);
        }
        return bytes.length() > 1500 ? bytes.substring(0, 1500) : bytes;
    }

    private String spoiled(String bytes) {
        int from = random.nextInt(bytes.length() + 1);
        int to = Math.min(bytes.length(), from + random.nextInt(3));
        switch (random.nextInt(4)) {
            case 0:
                return bytes.substring(0, from);
            case 1:
                return bytes.substring(0, from) + bytes.substring(to);
            default:
                return bytes.substring(0, from) + one(SPOILS) + bytes.substring(to);
        }
    }

    private String page() {
        String white = random.nextInt(3) == 0 ? " \n" : "";
        return "<html>" + white + "<head><title>" + one(TEXTS) + "</title></head>" + white
            + element("body", 2, BLOCKS) + white + "</html>" + white;
    }

    private String element(String name, int depth, String[] within) {
        room--;
        StringBuilder text = new StringBuilder("<" + name);
        attributes(text, name, within != null);
        boolean holdsNothing = name.matches("hr|br|img") && random.nextInt(20) != 0;
        if (holdsNothing || random.nextInt(5) == 0) {
            return text.append(random.nextInt(4) == 0 ? " />" : "/>").toString();
        }
        text.append('>');
        if (name.equals("pre") && within != null) {
            text.append(element("code", depth + 1, INLINES));
        }
        for (int parts = random.nextInt(5); parts > 0 && room > 0 && depth < 44 && !name.equals("pre"); parts--) {
            text.append(held(name, depth, within));
        }
        return text.append("</" + name + (random.nextInt(5) == 0 ? " >" : ">")).toString();
    }

    private String held(String name, int depth, String[] within) {
        boolean free = within == null || random.nextInt(60) == 0;
        if (free) {
            return random.nextInt(3) == 0 ? one(TEXTS) : element(one(NAMES), depth + 1, null);
        }
        if (name.matches("body|blockquote")) {
            return element(one(BLOCKS), depth + 1, BLOCKS);
        }
        if (name.matches("ul|ol")) {
            return element("li", depth + 1, INLINES);
        }
        if (name.equals("li") && random.nextInt(3) == 0) {
            return element(one(BLOCKS), depth + 1, BLOCKS);
        }
        return random.nextInt(2) == 0 || name.equals("code") ? one(TEXTS) : element(one(INLINES), depth + 1, INLINES);
    }

    private void attributes(StringBuilder text, String name, boolean fit) {
        if (!fit || random.nextInt(40) == 0) {
            for (int count = random.nextInt(4); count > 0; count--) {
                text.append(" " + one(ATTRIBUTES) + "=\"" + one(VALUES) + "\"");
            }
            return;
        }
        if (random.nextInt(4) == 0) {
            text.append(" id=\"i" + random.nextInt(400) + "\"");
        }
        if (name.equals("a")) {
            text.append(" href=\"" + (random.nextBoolean() ? one(VALUES) : "#i" + random.nextInt(400)) + "\"");
        }
        if (name.equals("img")) {
            text.append(" src=\"" + one(VALUES) + "\" alt=\"" + one(VALUES) + "\"");
        }
        if (name.equals("ol") && random.nextBoolean()) {
            text.append(" start=\"" + (random.nextInt(10) == 0 ? one(VALUES) : "7") + "\"");
        }
    }
}
