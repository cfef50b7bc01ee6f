import java.io.IOException;
import java.lang.reflect.Constructor;
import java.lang.reflect.Field;
import java.lang.reflect.Member;
import java.lang.reflect.Method;
import java.lang.reflect.Modifier;
import java.nio.file.Files;
import java.nio.file.Path;
import java.util.Arrays;
import java.util.Set;
import java.util.TreeSet;
import java.util.regex.Pattern;
import java.util.stream.Stream;

/** The public face, and what ../shared/LANGUAGE.md rules out that can be told from the source or the class. */
public final class FaceTest {
    private static final String FACE = """
        int sea 4, int ofLooker 2, int height 1, int heap 2, int dim 2, int scrape 1, int grow 1, long seen 0, int step 1,
        int voyage 5, int way 2, int most 2, int flat 1, int begun 6, int run 5, int reading 3, int back 1, int shorts 1,
        int kinds 1, long odds 3, int sheet 3, int lose 1, int put 3, long cell 3, int copy 5, int tell 1, int greet 1,
        int as 2, int trace 0, int fault 0, int many 1""";
    private static final String[] RULED_OUT = {"\\bthrow\\b", "\\bthrows\\b", "\\btry\\b", "\\bcatch\\b", "\\bfinally\\b",
        "\\bsynchronized\\b", "\\bassert\\b", "::", "\\bSystem\\b(?!\\.arraycopy)", "Exact\\b", "\\bpackage\\b", "\\bprotected\\b",
        "\\bhashCode\\b", "\\btoString\\b", "->", "\\bstatic\\s*\\{", "[^\\x00-\\x7f]", "import (?!java\\.util\\.(Arrays|ArrayList|List|Iterator);)"};

    private static final String[] HEADS = {
        "// ---- 1 the sea: sea ofLooker height heap dim scrape grow seen",
        "// ---- 2 steps: step voyage",
        "// ---- 3 where to go, where it was: way most flat begun run",
        "// ---- 4 what was told: reading back shorts kinds odds",
        "// ---- 5 sheets, parts: sheet lose put cell copy tell greet as trace fault many"};

    public static void main(String[] args) throws IOException {
        constants();
        face();
        classesInside();
        source();
        heads();
        Due.end();
    }

    private static void constants() {
        Due.due("UNKNOWN", HullCharts.UNKNOWN, -1);
        Due.due("OUTSIDE", HullCharts.OUTSIDE, -2);
        Due.due("STATE", HullCharts.STATE, -3);
        Due.due("FULL", HullCharts.FULL, -4);
        Due.due("NONE", HullCharts.NONE, -9);
        Due.due("LOST", HullCharts.LOST, Long.MIN_VALUE);
    }

    private static void face() {
        Due.due("the class is public and final", HullCharts.class.getModifiers(), Modifier.PUBLIC | Modifier.FINAL);
        Set<String> want = new TreeSet<>();
        for (String one : FACE.split(",")) want.add(one.strip());
        Set<String> got = new TreeSet<>();
        for (Method method : HullCharts.class.getDeclaredMethods()) {
            if (isFace(method)) got.add(method.getReturnType() + " " + method.getName() + " " + method.getParameterCount());
            else Due.isTrue(method + " is not named as a public one", !FACE.contains(" " + method.getName() + " "));
            Due.isTrue(method + " has seven parameters at most", method.getParameterCount() <= 7);
            Due.isTrue(method + " takes ints alone", !isFace(method)
                || Arrays.stream(method.getParameterTypes()).allMatch(type -> type == int.class));
        }
        Due.isTrue("the methods are " + got, got.equals(want));
        Set<String> fields = new TreeSet<>();
        for (Field field : HullCharts.class.getDeclaredFields()) {
            if (isFace(field)) fields.add(field.getType() + " " + field.getName());
            if (Modifier.isStatic(field.getModifiers())) Due.isTrue(field + " is final", Modifier.isFinal(field.getModifiers()));
        }
        Due.isTrue("the fields are " + fields, fields.equals(new TreeSet<>(Set.of("int UNKNOWN", "int OUTSIDE", "int STATE",
            "int FULL", "int NONE", "long LOST"))));
        Constructor<?>[] makers = HullCharts.class.getDeclaredConstructors();
        Due.due("constructors", makers.length, 1);
        Due.isTrue("it is public and takes nothing", isFace(makers[0]) && makers[0].getParameterCount() == 0);
    }

    private static boolean isFace(Member member) {
        Due.isTrue(member + " is public or private", (member.getModifiers() & (Modifier.PUBLIC | Modifier.PRIVATE)) != 0);
        return Modifier.isPublic(member.getModifiers());
    }

    private static void classesInside() {
        Class<?>[] inside = HullCharts.class.getDeclaredClasses();
        Due.isTrue("some twelve classes", inside.length <= 13);
        for (Class<?> one : inside) {
            Due.isTrue(one + " is static", Modifier.isStatic(one.getModifiers()));
            Due.isTrue(one + " is not public", !Modifier.isPublic(one.getModifiers()));
            long fields = Stream.of(one.getDeclaredFields()).filter(field -> !Modifier.isStatic(field.getModifiers())).count();
            Due.isTrue(one + " has some twenty fields", fields <= 22);
        }
    }

    private static void source() throws IOException {
        String text = Files.readString(Path.of("src/main/java/HullCharts.java"));
        String code = text.replaceAll("(?s)/\\*.*?\\*/", "").replaceAll("//[^\n]*", "");
        for (String sign : RULED_OUT) Due.isTrue("the source is without " + sign, !Pattern.compile(sign).matcher(code).find());
    }

    /** The interface's heads and calls, in the document's order. */
    private static void heads() throws IOException {
        String text = Files.readString(Path.of("src/main/java/HullCharts.java"));
        int place = 0;
        for (String head : HEADS) {
            String[] parts = head.split(": ");
            place = behind(text, parts[0] + "\n", place);
            for (String call : parts[1].split(" ")) place = behind(text, "public " + (isLong(call) ? "long " : "int ") + call + "(", place);
        }
    }

    private static boolean isLong(String call) {
        return FACE.contains("long " + call + " ");
    }

    private static int behind(String text, String part, int place) {
        int found = text.indexOf(part, place);
        Due.isTrue("the source has " + part.strip() + " in its place", found >= 0);
        return Math.max(found, place);
    }
}
