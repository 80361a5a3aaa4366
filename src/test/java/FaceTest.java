import java.lang.reflect.Constructor;
import java.lang.reflect.Field;
import java.lang.reflect.Member;
import java.lang.reflect.Method;
import java.lang.reflect.Modifier;
import java.nio.file.Files;
import java.nio.file.Path;
import java.util.ArrayList;
import java.util.Arrays;
import java.util.List;
import java.util.regex.Pattern;

/** The public face, and what of LANGUAGE.md can be seen from the text of the class. */
final class FaceTest {
    private static final String[] FACE = {
        "feed 5 int", "end 1 boolean", "board 5 int", "run 1 int", "fall 3 int", "knock 2 int!", "machine 4 int",
        "man 1 int", "score 0 int", "fault 0 int", "event 2 int!", "night 0 int", "sound 2 int!", "told 1 int",
        "made 0 int", "who 1 int", "balls 2 int", "fillings 1 int", "lay 1 int", "laid 1 int", "worn 1 int",
        "count 1 int"};

    public static void main(String[] args) throws Exception {
        face();
        text(Files.readString(Path.of(args.length > 0 ? args[0] : "src/main/java/StormLoft.java")));
        Loft.close();
    }

    private static void face() {
        Class<StormLoft> c = StormLoft.class;
        Loft.due("public final", Modifier.isPublic(c.getModifiers()) && Modifier.isFinal(c.getModifiers()), true);
        List<String> face = new ArrayList<>(Arrays.asList(FACE));
        List<String> names = new ArrayList<>();
        for (String f : FACE) {
            names.add(f.substring(0, f.indexOf(' ')));
        }
        for (Method m : c.getDeclaredMethods()) {
            if (Modifier.isPublic(m.getModifiers())) {
                String f = m.getName() + " " + m.getParameterCount() + " " + m.getReturnType()
                    + (m.getExceptionTypes().length > 0 ? "!" : "");
                Loft.due("of the face: " + f, face.remove(f), true);
            } else {
                Loft.due("private: " + m.getName(), isPrivate(m) && !names.contains(m.getName()), true);
            }
        }
        Loft.due("methods that lack: " + face, face.size(), 0);
        for (Field f : c.getDeclaredFields()) {
            boolean isNone = f.getName().equals("NONE") && Modifier.isPublic(f.getModifiers());
            Loft.due("field " + f.getName(), isNone || isPrivate(f), true);
        }
        Constructor<?>[] made = c.getDeclaredConstructors();
        Loft.due("constructors", made.length, 1);
        Loft.due("classes", c.getDeclaredClasses().length <= 12, true);
        for (Class<?> inner : c.getDeclaredClasses()) {
            Loft.due("static: " + inner, Modifier.isStatic(inner.getModifiers()), true);
            for (Method m : inner.getDeclaredMethods()) {
                Loft.due("no name of the face: " + m, names.contains(m.getName()), false);
                Loft.due("seven parameters: " + m, m.getParameterCount() <= 7, true);
            }
            int fields = 0;
            for (Field f : inner.getDeclaredFields()) {
                fields += Modifier.isStatic(f.getModifiers()) ? 0 : 1;
            }
            Loft.due("some twenty fields: " + inner, fields <= 20, true);
        }
    }

    private static boolean isPrivate(Member m) {
        return Modifier.isPrivate(m.getModifiers()) || m.isSynthetic();
    }

    private static void text(String text) {
        String code = text.replaceAll("(?s)/\\*.*?\\*/", "").replaceAll("//[^\n]*", "");
        String[] never = {"->", "::", "\\bfinally\\b", "\\bcatch\\b", "\\bsynchronized\\b", "\\bassert\\b", "\\bgoto\\b",
            "\\w+Exact\\b", "\\bSystem\\.(?!arraycopy)", "\\bThread\\b", "\\bRandom\\b", "\\bjava\\.(?!util\\.(Arrays"
            + "|NoSuchElementException);)", "\\bhashCode\\b", "\\btoString\\b", "\\bpackage\\b", "static \\{", "\" *\\+"};
        for (String n : never) {
            Loft.due("in the text: " + n, Pattern.compile(n).matcher(code).find(), false);
        }
        int longest = 0;
        for (String method : code.split("\n    (    )?\\}\n")) {
            longest = Math.max(longest, method.split("\n").length);
        }
        Loft.due("methods of some sixty lines, not " + longest, longest <= 60, true);
        boolean plain = true;
        for (int i = 0; i < text.length(); i++) {
            plain &= text.charAt(i) < 127;
        }
        Loft.due("signs", plain, true);
    }
}
