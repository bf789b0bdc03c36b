import java.lang.reflect.Constructor;
import java.lang.reflect.Field;
import java.lang.reflect.Method;
import java.lang.reflect.Modifier;
import java.util.ArrayList;
import java.util.Arrays;
import java.util.Collections;
import java.util.List;

/** The public face, and promise 1: a new object. */
public final class FaceTest {
    private static final List<String> FACE = Arrays.asList(
        "int NONE",
        "PlainPages()",
        "boolean isLinked() IllegalStateException",
        "boolean isPage() IllegalStateException",
        "int about(int)",
        "int attribute(int,int,int)",
        "int end(int)",
        "int fault(int)",
        "int find()",
        "int letter(int,int)",
        "int node(int,int)",
        "int output(int)",
        "int plain(int) IndexOutOfBoundsException",
        "int read() IllegalArgumentException",
        "int sign(int,int,boolean,int)",
        "int write(int) IndexOutOfBoundsException",
        "void feed(int,int,int,int,int)",
        "void wipe()");

    public static void main(String[] args) {
        Desk.due("the face", face(), sorted(FACE));
        Desk.due("NONE", PlainPages.NONE, -1);
        Desk.due("final", Modifier.isFinal(PlainPages.class.getModifiers()), true);
        newObject();
        Desk.close("FaceTest");
    }

    private static void newObject() {
        PlainPages pages = new PlainPages();
        for (int what = 0; what < 4; what++) {
            Desk.due("about(" + what + ")", pages.about(what), 0);
        }
        Desk.due("fault(0)", pages.fault(0), 0);
        Desk.due("fault(1)", pages.fault(1), -1);
        Desk.due("node(0, 0)", pages.node(0, 0), -1);
        Desk.due("letter(0, 0)", pages.letter(0, 0), -1);
        Desk.due("attribute(0, 0, 0)", pages.attribute(0, 0, 0), -1);
        Desk.due("sign(0, 0, false, 0)", pages.sign(0, 0, false, 0), -1);
        Desk.due("output(0)", pages.output(0), -1);
        Desk.due("find()", pages.find(), -1);
        Desk.due("isPage()", Desk.isPage(pages), "IllegalStateException");
        Desk.due("isLinked()", Desk.isLinked(pages), "IllegalStateException");
        Desk.due("plain(0)", Desk.plain(pages, 0), "IndexOutOfBoundsException");
        Desk.due("write(0)", Desk.written(pages, 0), "IndexOutOfBoundsException");
        Desk.due("end(0)", pages.end(0), 0);
        Desk.due("read()", Desk.read(pages), "IllegalArgumentException");
        Desk.due("fault(1)", pages.fault(1), 0);
    }

    private static List<String> face() {
        List<String> face = new ArrayList<>();
        for (Field field : PlainPages.class.getDeclaredFields()) {
            if (!Modifier.isPrivate(field.getModifiers())) {
                face.add(field.getType().getSimpleName() + " " + field.getName());
            }
        }
        for (Constructor<?> maker : PlainPages.class.getDeclaredConstructors()) {
            face.add("PlainPages" + inBrackets(maker.getParameterTypes()));
        }
        for (Method method : PlainPages.class.getDeclaredMethods()) {
            if (!Modifier.isPrivate(method.getModifiers()) && !method.isSynthetic()) {
                StringBuilder line = new StringBuilder(method.getReturnType().getSimpleName());
                line.append(' ').append(method.getName()).append(inBrackets(method.getParameterTypes()));
                for (Class<?> thrown : method.getExceptionTypes()) {
                    line.append(' ').append(thrown.getSimpleName());
                }
                face.add(line.toString());
            }
        }
        return sorted(face);
    }

    private static String inBrackets(Class<?>[] types) {
        List<String> names = new ArrayList<>();
        for (Class<?> type : types) {
            names.add(type.getSimpleName());
        }
        return "(" + String.join(",", names) + ")";
    }

    private static List<String> sorted(List<String> lines) {
        List<String> sorted = new ArrayList<>(lines);
        Collections.sort(sorted);
        return sorted;
    }
}
