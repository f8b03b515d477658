import java.io.IOException;
import java.lang.reflect.Constructor;
import java.lang.reflect.Field;
import java.lang.reflect.Method;
import java.lang.reflect.Modifier;
import java.nio.charset.StandardCharsets;
import java.nio.file.Files;
import java.nio.file.Path;
import java.util.Arrays;
import java.util.Set;
import java.util.TreeSet;
import java.util.regex.Matcher;
import java.util.regex.Pattern;

/** The public face as the document has it, and those rules of LANGUAGE.md that a look can tell. */
public final class FaceTest {
    private static final String[] FACE = {
        "boolean modulus(int)", "boolean axiom(int,int)", "int feed(int,int,int,int,int)", "int proof(int)",
        "int law(int)", "int line(int,int)", "int wrong()", "int untrue()", "int slip(int,int)", "int honest()",
        "int mended(int)", "int referred(int)", "int reads(int,int)", "int hidden(int,int)", "int unread(int)",
        "int readers(int,int)", "int blind(int)", "int cancel(int)", "int stands(int,int)",
        "int anew(int,int,int)", "int added(int)", "long order(int,int)", "boolean seed(int)", "int copied(int)",
        "int author(int,int)", "int corrects(int,int,int)", "int points(int)", "int keep()", "boolean undo()",
        "int check(int)", "int count(int)"};
    private static final String[] FORBIDDEN = {"throw", "throws", "try", "catch", "synchronized", "assert",
        "import", "package", "protected", "->", "::", "Exact", "static {", "hashCode", "toString"};
    private static int wrong = 0;

    public static void main(String[] args) throws IOException {
        members();
        Set<String> publicNames = new TreeSet<>();
        for (String member : FACE) {
            publicNames.add(member.replaceAll(".* (\\w+)\\(.*", "$1"));
        }
        nested(publicNames);
        source(publicNames);
        System.out.println(wrong == 0 ? "the face is as due" : wrong + " things are not as due");
        if (wrong != 0) {
            System.exit(1);
        }
    }

    private static void due(String what, boolean so) {
        if (!so) {
            wrong++;
            System.out.println("not so: " + what);
        }
    }

    private static void members() {
        Class<?> face = OneSlip.class;
        due("public and final", Modifier.isPublic(face.getModifiers()) && Modifier.isFinal(face.getModifiers()));
        Set<String> found = new TreeSet<>();
        for (Method method : face.getDeclaredMethods()) {
            if (Modifier.isPrivate(method.getModifiers())) {
                continue;
            }
            String types = Arrays.toString(method.getParameterTypes()).replaceAll("[\\[\\] ]", "");
            found.add(method.getReturnType() + " " + method.getName() + "(" + types + ")");
            due(method + " is public, not static", method.getModifiers() == Modifier.PUBLIC);
        }
        Set<String> want = new TreeSet<>(Arrays.asList(FACE));
        due("methods: " + found, found.equals(want));
        for (Field field : face.getDeclaredFields()) {
            boolean isNone = field.getName().equals("NONE");
            due(field + " is private", isNone || Modifier.isPrivate(field.getModifiers()));
            due(field + " is final", !Modifier.isStatic(field.getModifiers())
                    || Modifier.isFinal(field.getModifiers()));
        }
        Constructor<?>[] constructors = face.getDeclaredConstructors();
        due("one public constructor", constructors.length == 1 && constructors[0].getParameterCount() == 0
                && constructors[0].getModifiers() == Modifier.PUBLIC);
    }

    private static void nested(Set<String> publicNames) {
        Class<?>[] nested = OneSlip.class.getDeclaredClasses();
        due("at most twelve classes", nested.length + 1 <= 12);
        for (Class<?> one : nested) {
            due(one + " is static", Modifier.isStatic(one.getModifiers()));
            int fields = 0;
            for (Field field : one.getDeclaredFields()) {
                boolean isStatic = Modifier.isStatic(field.getModifiers());
                due(field + " is final", !isStatic || Modifier.isFinal(field.getModifiers()));
                fields += isStatic ? 0 : 1;
            }
            due(one + " has at most twenty fields", fields <= 20);
            for (Method method : one.getDeclaredMethods()) {
                due(method + " has a name of its own", !publicNames.contains(method.getName()));
                due(method + " has at most seven parameters", method.getParameterCount() <= 7);
            }
        }
    }

    private static void source(Set<String> publicNames) throws IOException {
        byte[] bytes = Files.readAllBytes(Path.of("src/main/java/OneSlip.java"));
        for (byte b : bytes) {
            due("a sign of 1 to 127: " + b, b == '\n' || b >= ' ' && b < 127);
        }
        String text = new String(bytes, StandardCharsets.US_ASCII);
        String code = text.replaceAll("(?s)/\\*.*?\\*/", "").replaceAll("//[^\n]*", "");
        for (String word : FORBIDDEN) {
            boolean isWord = Character.isLetter(word.charAt(0)) && !word.equals("Exact") && !word.endsWith("{");
            String pattern = isWord ? "\\b" + word + "\\b" : Pattern.quote(word);
            due("no " + word, !Pattern.compile(pattern).matcher(code).find());
        }
        due("no loop without a bound", !Pattern.compile("for \\(;;|while \\(true|while \\(").matcher(code).find());
        for (String name : publicNames) {
            due("no private method " + name,
                    !Pattern.compile("private [\\w\\[\\] ]*\\b" + name + "\\(").matcher(code).find());
        }
        Matcher method = Pattern.compile("(?m)^( +)[\\w\\[\\] ]+\\([^;{}]*\\) \\{\n(.*\n)*?\\1\\}").matcher(code);
        while (method.find()) {
            due("at most sixty lines: " + method.group().lines().findFirst().orElse(""),
                    method.group().lines().count() <= 60);
        }
    }
}
