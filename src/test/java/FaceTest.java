import java.io.IOException;
import java.lang.reflect.Constructor;
import java.lang.reflect.Field;
import java.lang.reflect.Method;
import java.lang.reflect.Modifier;
import java.nio.charset.StandardCharsets;
import java.nio.file.Files;
import java.nio.file.Path;
import java.util.Arrays;
import java.util.Set;
import java.util.TreeSet;
import java.util.regex.Matcher;
import java.util.regex.Pattern;

/** The public face is the document's, and the source keeps the rules of LANGUAGE.md that can be read off it. */
public final class FaceTest {
    private static final String[] METHODS = {"int hassock(int,int,int)", "int gone(int)", "int hair(int)",
        "int swap(int,int)", "int say(int)", "int wipe()", "int fault()", "int judge(int)", "int behind(int,int)",
        "int see(int)", "int swept(int)", "int done()", "int borders()", "int row(int)", "int most(int,int)",
        "int pile(int)", "int felt(int,int)", "int forget()", "int fits(int)", "int ask(int)", "int unpick(int,int)",
        "long moths(int,int,int,int,int)", "int book(int,int,int)", "int image(int)", "int restore(int)",
        "int told(int)"};
    private static final String[] CONSTANTS = {"int UNKNOWN", "int OUTSIDE", "int STATE", "int FULL", "int NO",
        "int NONE", "long GONE"};
    private static final String FORBIDDEN = "\\b(throw|throws|try|catch|finally|synchronized|assert|import|package"
            + "|native|volatile|strictfp|transient|yield|var|protected|instanceof|Object|System|Thread|record)\\b"
            + "|->|::|\\b\\w+Exact\\b|\\.\\.\\.|@";

    private static final Due due = new Due();

    private FaceTest() {
    }

    public static void main(String[] args) throws IOException {
        Class<?> face = HassockSee.class;
        due.holds("public and final", Modifier.isPublic(face.getModifiers()) && Modifier.isFinal(face.getModifiers()));
        constructors(face);
        methods(face);
        fields(face);
        classes(face);
        source(Files.readString(Path.of("src/main/java/HassockSee.java"), StandardCharsets.US_ASCII));
        due.end("FaceTest");
    }

    private static void constructors(Class<?> face) {
        Constructor<?>[] all = face.getDeclaredConstructors();
        due.is("constructors", all.length, 1);
        due.holds("it is public, with nothing", Modifier.isPublic(all[0].getModifiers())
                && all[0].getParameterCount() == 0);
    }

    private static void methods(Class<?> face) {
        Set<String> found = new TreeSet<>();
        Set<String> publicNames = new TreeSet<>();
        for (Method method : face.getDeclaredMethods()) {
            if (!Modifier.isPrivate(method.getModifiers())) {
                found.add(signature(method));
                publicNames.add(method.getName());
                due.holds(method + " is public, of an object",
                        Modifier.isPublic(method.getModifiers()) && !Modifier.isStatic(method.getModifiers()));
            }
        }
        due.holds("methods: " + found, found.equals(new TreeSet<>(Arrays.asList(METHODS))));
        for (Class<?> inner : face.getDeclaredClasses()) {
            for (Method method : inner.getDeclaredMethods()) {
                due.holds(inner + " bears no public name: " + method, !publicNames.contains(method.getName()));
            }
        }
        for (Method method : face.getDeclaredMethods()) {
            due.holds("no private one bears a public name: " + method,
                    Modifier.isPublic(method.getModifiers()) || !publicNames.contains(method.getName()));
            due.holds("seven parameters at most: " + method, method.getParameterCount() <= 7);
        }
    }

    private static String signature(Method method) {
        StringBuilder text = new StringBuilder(method.getReturnType() + " " + method.getName() + "(");
        for (Class<?> type : method.getParameterTypes()) {
            text.append(text.charAt(text.length() - 1) == '(' ? "" : ",").append(type);
        }
        return text.append(")").toString();
    }

    private static void fields(Class<?> face) {
        Set<String> found = new TreeSet<>();
        for (Field field : face.getDeclaredFields()) {
            if (!Modifier.isPrivate(field.getModifiers())) {
                found.add(field.getType() + " " + field.getName());
                due.holds(field + " is a public constant", (field.getModifiers() & 0x1f) == 0x19);
            }
        }
        due.holds("constants: " + found, found.equals(new TreeSet<>(Arrays.asList(CONSTANTS))));
    }

    private static void classes(Class<?> face) {
        Class<?>[] all = face.getDeclaredClasses();
        due.holds("twelve classes at most", all.length + 1 <= 12);
        for (Class<?> inner : all) {
            due.holds(inner + " is static", Modifier.isStatic(inner.getModifiers()));
            due.holds(inner + " is not public", !Modifier.isPublic(inner.getModifiers()));
        }
        for (int i = -1; i < all.length; i++) {
            int count = 0;
            for (Field field : (i < 0 ? face : all[i]).getDeclaredFields()) {
                count += Modifier.isStatic(field.getModifiers()) ? 0 : 1;
                due.holds(field + ": no static state", !Modifier.isStatic(field.getModifiers())
                        || Modifier.isFinal(field.getModifiers()) && field.getType().isPrimitive());
            }
            due.holds("twenty fields at most", count <= 20);
        }
    }

    private static void source(String text) {
        String code = text.replaceAll("(?s)/\\*.*?\\*/", "").replaceAll("//[^\n]*", "").replaceAll("'.'", "' '");
        Matcher forbidden = Pattern.compile(FORBIDDEN).matcher(code);
        due.holds("a word that the rules leave out: " + (forbidden.find() ? forbidden.group() : ""),
                !forbidden.reset().find());
        Matcher made = Pattern.compile("\\bnew (?!int\\[|Diocese\\(\\)|Pad\\(\\)|Years\\(\\)|Arrangements\\(\\)"
                + "|Unpicking\\(\\)|Sights\\(\\)|Wear\\(\\)|Image\\(\\))").matcher(code);
        due.holds("something else is made", !made.find());
        Matcher inMethod = Pattern.compile("\n {8,}(?!return)[^\n]*\\bnew [^\n]*").matcher(code);
        for (int i = 0; i < 99 && inMethod.find(); i++) {
            due.holds("made but in a field: " + inMethod.group(), inMethod.group().contains("private final ")
                    || inMethod.group().contains("\n        final int[]"));
        }
        String[] lines = text.split("\n");
        int begun = 0;
        for (int i = 0; i < lines.length; i++) {
            due.holds("a long line: " + (i + 1), lines[i].length() <= 120);
            if (lines[i].matches(" {4,8}\\S.*\\) \\{")) {
                begun = i;
            }
            if (lines[i].matches(" {4,8}\\}")) {
                due.holds("a long method: " + (begun + 1), i - begun < 60 || lines[i].equals("    }"));
            }
        }
    }
}
