import java.lang.reflect.Constructor;
import java.lang.reflect.Field;
import java.lang.reflect.Method;
import java.lang.reflect.Modifier;
import java.nio.charset.StandardCharsets;
import java.nio.file.Files;
import java.nio.file.Path;
import java.util.Arrays;
import java.util.TreeSet;
import java.util.regex.Matcher;
import java.util.regex.Pattern;

/** The face is that of the document, and the file keeps to ../shared/LANGUAGE.md as far as that is easily seen. */
public final class FaceTest {
    private static final Check CHECK = new Check("FaceTest");
    private static final String[] FACE = {
        "int feed(int)", "int town()", "int man(int,int,int,int)", "int of(int,int)", "int row(int,int,int)",
        "int set(int,int,int)", "int stud(int,boolean)", "int away(int,boolean)", "int apart(int,int)",
        "int told(int)", "int pass(int)", "int on(int,int)", "int when(int)", "int walk(int)", "int table(int)",
        "int wash(int)", "int see(int,int,int)", "int highs(int,int)", "int firm(int,int)", "long odds(int,int,int)",
        "long mean(int)", "int plan(int,int)", "int done(int)", "int book(int,int)", "int looked()",
        "int act(int,int,int)", "int trace(int)", "int as(int,int)", "int image()", "int undo()", "int count(int)"};

    private FaceTest() {
    }

    private static String told(Method m) {
        StringBuilder s = new StringBuilder(m.getReturnType().getName() + " " + m.getName() + "(");
        for (int i = 0; i < m.getParameterTypes().length; i++) {
            s.append(i == 0 ? "" : ",").append(m.getParameterTypes()[i].getName());
        }
        return s.append(")").toString();
    }

    private static void face() {
        Class<?> c = StarchedCollars.class;
        CHECK.isTrue("public and final", Modifier.isPublic(c.getModifiers()) && Modifier.isFinal(c.getModifiers()));
        TreeSet<String> are = new TreeSet<>();
        TreeSet<String> publicNames = new TreeSet<>();
        for (Method m : c.getDeclaredMethods()) {
            if (Modifier.isPublic(m.getModifiers())) {
                are.add(told(m));
                publicNames.add(m.getName());
            } else {
                CHECK.isTrue(m.getName() + " is private", Modifier.isPrivate(m.getModifiers()));
            }
        }
        CHECK.isTrue("the methods " + are, are.equals(new TreeSet<>(Arrays.asList(FACE))));
        for (Class<?> inside : c.getDeclaredClasses()) {
            CHECK.isTrue(inside + " is static", Modifier.isStatic(inside.getModifiers()));
            CHECK.isTrue(inside + " is not public", !Modifier.isPublic(inside.getModifiers()));
            CHECK.isTrue(inside + " has few fields", inside.getDeclaredFields().length <= 20);
            for (Method m : inside.getDeclaredMethods()) {
                CHECK.isTrue(m + " has a name of its own", !publicNames.contains(m.getName()));
            }
        }
        for (Method m : c.getDeclaredMethods()) {
            boolean isPublic = Modifier.isPublic(m.getModifiers());
            CHECK.isTrue(m + " has a name of its own", isPublic || !publicNames.contains(m.getName()));
        }
        CHECK.isTrue("few classes", c.getDeclaredClasses().length + 1 <= 12);
        parameters(c);
        for (Class<?> inside : c.getDeclaredClasses()) {
            CHECK.due("classes inside " + inside, inside.getDeclaredClasses().length, 0);
            parameters(inside);
        }
        Constructor<?>[] made = c.getDeclaredConstructors();
        boolean isOne = made.length == 1 && made[0].getParameterCount() == 0;
        CHECK.isTrue("one public constructor", isOne && Modifier.isPublic(made[0].getModifiers()));
    }

    private static void parameters(Class<?> c) {
        for (Method m : c.getDeclaredMethods()) {
            CHECK.isTrue(m + " has seven parameters at most", m.getParameterCount() <= 7);
        }
    }

    private static void constants() {
        int publicOnes = 0;
        for (Field f : StarchedCollars.class.getDeclaredFields()) {
            int m = f.getModifiers();
            publicOnes += Modifier.isPublic(m) ? 1 : 0;
            CHECK.isTrue(f + " is public or private", Modifier.isPublic(m) || Modifier.isPrivate(m));
            CHECK.isTrue(f + " is final if static", !Modifier.isStatic(m) || Modifier.isFinal(m));
        }
        CHECK.due("public constants", publicOnes, 5);
        CHECK.due("NONE", StarchedCollars.NONE, -1);
        CHECK.due("BAD", StarchedCollars.BAD, -2);
        CHECK.due("STATE", StarchedCollars.STATE, -3);
        CHECK.due("FULL", StarchedCollars.FULL, -4);
        CHECK.due("NO", StarchedCollars.NO, Long.MIN_VALUE);
    }

    private static void language() throws Exception {
        Path path = Path.of("src/main/java/StarchedCollars.java");
        String text = new String(Files.readAllBytes(path), StandardCharsets.ISO_8859_1);
        String code = text.replaceAll("(?s)/\\*.*?\\*/", "").replaceAll("//[^\n]*", "");
        String[] banned = {"throw", "throws", "try", "catch", "finally", "synchronized", "assert", "import", "package",
            "volatile", "native", "System\\.(?!arraycopy)", "Exact", "Random", "->", "::", "MAX_VALUE", "Object\\b",
            "hashCode", "toString"};
        for (String word : banned) {
            String bound = Character.isLetter(word.charAt(0)) ? "\\b" : "";
            Matcher m = Pattern.compile(bound + word + (word.matches("\\w+") ? "\\b" : "")).matcher(code);
            CHECK.isTrue("no " + word, !m.find());
        }
        CHECK.isTrue("ASCII alone", text.chars().allMatch(ch -> ch < 127));
    }

    public static void main(String[] args) throws Exception {
        face();
        constants();
        language();
        CHECK.end();
    }
}
