import java.io.IOException;
import java.lang.reflect.Field;
import java.lang.reflect.Method;
import java.lang.reflect.Modifier;
import java.nio.file.Files;
import java.nio.file.Path;
import java.util.ArrayList;
import java.util.Arrays;
import java.util.List;
import java.util.TreeSet;
import java.util.regex.Matcher;
import java.util.regex.Pattern;

/** The document's face, and those rules of LANGUAGE.md that can be seen from outside. */
public final class LanguageTest {
    private static final Check CHECK = new Check();
    private static final List<String> FACE = List.of(
            "int letter 1", "int blank 0", "int fault 0", "int shore 0", "int sand 2",
            "int boat 2", "int asker 2", "int as 2", "int ask 1", "int thank 0", "int draw 2",
            "int heap 2", "int teach 3", "int order 1", "int few 2", "int good 0", "int odds 3",
            "int see 2", "int forget 0", "int send 0", "int seasons 3", "int image 0",
            "int restore 0", "int count 1", "long digest 0");
    private static final List<String> FORBIDDEN = List.of("throw", "throws", "try", "catch",
            "synchronized", "assert", "package", "->", "::", "Exact\\(", "System\\.(?!arraycopy)",
            "hashCode", "toString", "while \\(true\\)", "for \\(;;\\)", "protected",
            "import (?!java\\.util\\.Arrays;)", "\\[\\]\\[\\]\\[\\]");

    public static void main(String[] args) throws IOException {
        face();
        inside();
        source(Files.readString(Path.of("src/main/java/TideAsked.java")));
        room();
        CHECK.end("LanguageTest");
    }

    private static void yes(String what, boolean is) {
        CHECK.due(what, is ? 1 : 0, 1);
    }

    private static void face() {
        List<String> open = new ArrayList<>();
        TreeSet<String> hidden = new TreeSet<>();
        for (Method method : TideAsked.class.getDeclaredMethods()) {
            if (Modifier.isPrivate(method.getModifiers())) {
                hidden.add(method.getName());
            } else {
                yes(method + " is public", Modifier.isPublic(method.getModifiers()));
                yes(method + " is no static", !Modifier.isStatic(method.getModifiers()));
                open.add(method.getReturnType() + " " + method.getName() + " "
                        + method.getParameterCount());
                yes(method + " takes ints", Arrays.stream(method.getParameterTypes())
                        .allMatch(type -> type == int.class));
            }
        }
        yes("the methods " + open, new TreeSet<>(open).equals(new TreeSet<>(FACE)));
        yes("as many", open.size() == FACE.size());
        for (String method : FACE) {
            yes(method + " is no private name", !hidden.contains(method.split(" ")[1]));
        }
        yes("the class is final", Modifier.isFinal(TideAsked.class.getModifiers()));
        yes("one constructor", TideAsked.class.getDeclaredConstructors().length == 1);
        int constants = 0;
        for (Field field : TideAsked.class.getDeclaredFields()) {
            constants += Modifier.isPublic(field.getModifiers()) ? 1 : 0;
            yes(field + " is public or private", Modifier.isPublic(field.getModifiers())
                    || Modifier.isPrivate(field.getModifiers()));
        }
        CHECK.due("public constants", constants, 5);
    }

    private static void inside() {
        List<Class<?>> classes = new ArrayList<>(List.of(TideAsked.class.getDeclaredClasses()));
        for (Class<?> one : classes) {
            yes(one + " is static", Modifier.isStatic(one.getModifiers()));
            yes(one + " is private", Modifier.isPrivate(one.getModifiers()));
        }
        classes.add(TideAsked.class);
        yes("twelve classes at most", classes.size() <= 12);
        for (Class<?> one : classes) {
            int own = 0;
            for (Field field : one.getDeclaredFields()) {
                boolean isStatic = Modifier.isStatic(field.getModifiers());
                own += isStatic ? 0 : 1;
                yes(field + " is final, if static",
                        !isStatic || Modifier.isFinal(field.getModifiers()));
            }
            yes(one + " has twenty fields at most", own <= 20);
            for (Method method : one.getDeclaredMethods()) {
                yes(method + " bears no name of the face", one == TideAsked.class
                        || FACE.stream().noneMatch(of -> of.split(" ")[1].equals(method.getName())));
                yes(method + " takes seven at most", method.getParameterCount() <= 7);
            }
        }
    }

    private static void source(String text) {
        String code = text.replaceAll("(?s)/\\*.*?\\*/", "").replaceAll("//.*", "");
        for (String word : FORBIDDEN) {
            String bounded = word.matches("[a-zA-Z]+") ? "\\b" + word + "\\b" : word;
            Matcher matcher = Pattern.compile(bounded).matcher(code);
            yes("no " + word, !matcher.find());
        }
        yes("signs 1 to 127", text.chars().allMatch(sign -> sign >= 1 && sign <= 127));
        int since = 0;
        int number = 0;
        for (String line : text.split("\n")) {
            number++;
            if (line.matches("(    |        )\\S.*\\) \\{")) {
                since = number;
            }
            if (line.matches("(    |        )\\}")) {
                yes("sixty lines up to line " + number, since == 0 || number - since <= 60);
            }
        }
    }

    // All calls live in one room, so a call beside the constructor makes nothing.
    private static void room() {
        com.sun.management.ThreadMXBean bean = (com.sun.management.ThreadMXBean)
                java.lang.management.ManagementFactory.getThreadMXBean();
        bean.getCurrentThreadAllocatedBytes();
        TideAsked x = Check.on("32104567;01,23,45;a9,r8,s7,l6,f5");
        long before = bean.getCurrentThreadAllocatedBytes();
        long sum = 0;
        for (int i = 0; i < 400; i++) {
            sum += x.digest() + x.few(0, 0) + x.seasons(60, i, 0) + x.ask(i % 5) + x.thank();
            sum += x.image() + x.restore() + x.see(0, 1) + x.forget() + x.letter(50) + x.fault();
        }
        long made = bean.getCurrentThreadAllocatedBytes() - before;
        yes("4,400 calls made " + made + " bytes (sum " + sum + ")", made < 50_000);
    }
}
