import java.io.IOException;
import java.lang.reflect.Constructor;
import java.lang.reflect.Field;
import java.lang.reflect.Method;
import java.lang.reflect.Modifier;
import java.nio.file.Files;
import java.nio.file.Path;
import java.util.Arrays;
import java.util.Set;
import java.util.TreeSet;
import java.util.regex.Matcher;
import java.util.regex.Pattern;

/** The public face, and those rules of LANGUAGE.md that can be seen from the class or its text. */
public final class FaceTest {
    private static final Set<String> FACE = new TreeSet<>(Arrays.asList(
        "int letter(int)", "int blank()", "int fault()", "int boxes()", "int remove(int)",
        "int move(int,int,int,int)", "int lay(int,int,int,int)", "int touch(boolean)", "int box(int,int)",
        "int end(int,int,int)", "int meet(int,int)", "int pair(int)", "int event(int,int)", "int latest(int)",
        "int let(int,int,int)", "int heap(int)", "int probe(int,int,int,int,int,int)", "int count(int)",
        "long digest()"));

    public static void main(String[] args) throws IOException {
        constants();
        methods();
        constructors();
        fields();
        nestedClasses();
        text();
        Due.close("FaceTest");
    }

    private static void constants() {
        Due.is("NONE", BoxFlickers.NONE, -10001);
        Due.is("UNKNOWN", BoxFlickers.UNKNOWN, -10002);
        Due.is("OUTSIDE", BoxFlickers.OUTSIDE, -10003);
        Due.is("STATE", BoxFlickers.STATE, -10004);
        Due.is("FULL", BoxFlickers.FULL, -10005);
    }

    private static void methods() {
        Set<String> seen = new TreeSet<>();
        Set<String> names = new TreeSet<>();
        for (Method m : BoxFlickers.class.getDeclaredMethods()) {
            if (Modifier.isPublic(m.getModifiers())) {
                String parameters = Arrays.toString(Arrays.stream(m.getParameterTypes()).map(Class::getName).toArray());
                seen.add(m.getReturnType().getName() + " " + m.getName()
                    + parameters.replace("[", "(").replace("]", ")").replace(" ", ""));
                names.add(m.getName());
            }
        }
        Due.that("the public methods are those of the document: " + seen, seen.equals(FACE));
        for (Method m : BoxFlickers.class.getDeclaredMethods()) {
            if (!Modifier.isPublic(m.getModifiers())) {
                Due.that(m + " is private", Modifier.isPrivate(m.getModifiers()));
                Due.that(m + " bears no public name", !names.contains(m.getName()));
            }
            Due.that(m + " has at most seven parameters", m.getParameterCount() <= 7);
        }
    }

    private static void constructors() {
        Constructor<?>[] all = BoxFlickers.class.getDeclaredConstructors();
        Due.is("constructors", all.length, 1);
        Due.is("parameters of the constructor", all[0].getParameterCount(), 0);
        Due.that("the constructor is public", Modifier.isPublic(all[0].getModifiers()));
        Due.that("the class is public and final", Modifier.isPublic(BoxFlickers.class.getModifiers())
            && Modifier.isFinal(BoxFlickers.class.getModifiers()));
    }

    private static void fields() {
        Set<String> open = new TreeSet<>();
        for (Field f : BoxFlickers.class.getDeclaredFields()) {
            if (!Modifier.isPrivate(f.getModifiers())) {
                open.add(f.getName());
            }
        }
        Due.that("open fields are the constants: " + open,
            open.equals(new TreeSet<>(Arrays.asList("NONE", "UNKNOWN", "OUTSIDE", "STATE", "FULL"))));
    }

    private static void nestedClasses() {
        Class<?>[] all = BoxFlickers.class.getDeclaredClasses();
        Due.that("at most twelve classes", all.length < 12);
        for (Class<?> c : all) {
            Due.that(c + " is static", Modifier.isStatic(c.getModifiers()));
            for (Field f : c.getDeclaredFields()) {
                Due.that(f + ": static fields are final", !Modifier.isStatic(f.getModifiers()) || Modifier.isFinal(f.getModifiers()));
            }
            for (Method m : c.getDeclaredMethods()) {
                Due.that(m + " bears no public name", FACE.stream().noneMatch(face -> face.contains(" " + m.getName() + "(")));
            }
        }
    }

    private static void text() throws IOException {
        String text = Files.readString(Path.of("src/main/java/BoxFlickers.java"));
        String code = text.replaceAll("(?s)/\\*.*?\\*/", "").replaceAll("//[^\n]*", "");
        String banned = "\\b(throw|throws|try|catch|synchronized|assert|import|package|volatile|transient|native"
            + "|System|Thread|Object|equals|hashCode|toString|var)\\b|->|::|Exact\\b";
        Matcher m = Pattern.compile(banned).matcher(code);
        while (m.find()) {
            Due.that("no '" + m.group() + "' in the class", false);
        }
        Due.that("plain signs alone", text.chars().allMatch(c -> c == '\n' || c >= 32 && c < 127));
        int longest = 0;
        int begun = 0;
        String[] lines = text.split("\n");
        for (int i = 0; i < lines.length; i++) {
            if (lines[i].matches("( {4}| {8})\\S.*\\) \\{")) {
                begun = i;
            } else if (lines[i].matches("( {4}| {8})\\}")) {
                longest = Math.max(longest, i - begun);
            }
        }
        Due.that("methods stay short: " + longest, longest > 0 && longest <= 60);
    }
}
