import java.io.IOException;
import java.lang.reflect.Constructor;
import java.lang.reflect.Field;
import java.lang.reflect.Method;
import java.lang.reflect.Modifier;
import java.nio.file.Files;
import java.nio.file.Path;
import java.util.Arrays;
import java.util.Set;
import java.util.TreeSet;
import java.util.regex.Matcher;
import java.util.regex.Pattern;

/** The face of the class, its constants, and the rules of the language that can be looked at here. */
final class FaceTest {
    private static final Check CHECK = new Check();
    private static final String[] FACE = {
        "int wire(int,int,int,int)", "int ofPerson(int,int)", "int grudge(int,boolean)", "int hand(int)",
        "int wish(int,int)", "int news(int,int,int,int)", "int said(int,int,int,int)", "int fewest()",
        "int soonest()", "int cut(int)", "int order(int,int,int,int,int)", "int coming()", "int letters(int)",
        "long heard(int,int,int)", "int stand(int)", "int reading(int,int,int,int)", "int back(int)",
        "int kinds(int)", "int walls()", "int sheet(int,int,int)", "int lose(int)", "int put(int,int,int)",
        "long cell(int,int,int)", "int copy(int,int,int,int,int)", "int tell(int)", "int lean(int)",
        "int as(int,int)", "int trace()", "int fault()", "int many(int)"};

    public static void main(String[] args) throws IOException {
        constants();
        members();
        classesInside();
        wordsOfTheText();
        CHECK.end();
    }

    private static void constants() {
        CHECK.due("UNKNOWN", OneWire.UNKNOWN, -1);
        CHECK.due("OUTSIDE", OneWire.OUTSIDE, -2);
        CHECK.due("STATE", OneWire.STATE, -3);
        CHECK.due("FULL", OneWire.FULL, -4);
        CHECK.due("NONE", OneWire.NONE, -9);
        CHECK.due("LOST", OneWire.LOST, Long.MIN_VALUE);
    }

    private static String told(Method m) {
        StringBuilder text = new StringBuilder(m.getReturnType() + " " + m.getName() + "(");
        for (Class<?> type : m.getParameterTypes()) {
            text.append(text.charAt(text.length() - 1) == '(' ? "" : ",").append(type);
        }
        return text.append(")").toString();
    }

    private static void members() {
        Class<?> c = OneWire.class;
        CHECK.that("public and final", c.getModifiers() == (Modifier.PUBLIC | Modifier.FINAL));
        Set<String> seen = new TreeSet<>();
        for (Method m : c.getDeclaredMethods()) {
            if (!Modifier.isPrivate(m.getModifiers())) {
                CHECK.that("public alone: " + m, m.getModifiers() == Modifier.PUBLIC);
                seen.add(told(m));
            }
        }
        CHECK.that("methods " + seen, seen.equals(new TreeSet<>(Arrays.asList(FACE))));
        Set<String> fields = new TreeSet<>();
        for (Field f : c.getDeclaredFields()) {
            if (!Modifier.isPrivate(f.getModifiers())) {
                fields.add(f.getType() + " " + f.getName());
            }
        }
        CHECK.that("fields " + fields, fields.equals(new TreeSet<>(Arrays.asList(
            "int UNKNOWN", "int OUTSIDE", "int STATE", "int FULL", "int NONE", "long LOST"))));
        Constructor<?>[] made = c.getDeclaredConstructors();
        CHECK.that("one constructor", made.length == 1 && made[0].getParameterCount() == 0
            && made[0].getModifiers() == Modifier.PUBLIC);
    }

    private static void classesInside() {
        Set<String> names = new TreeSet<>();
        for (String call : FACE) {
            names.add(call.substring(call.indexOf(' ') + 1, call.indexOf('(')));
        }
        Class<?>[] inside = OneWire.class.getDeclaredClasses();
        CHECK.that("at most twelve classes", inside.length < 12);
        for (Class<?> c : inside) {
            CHECK.that("static: " + c, Modifier.isStatic(c.getModifiers()));
            CHECK.that("not public: " + c, !Modifier.isPublic(c.getModifiers()) && !Modifier.isProtected(c.getModifiers()));
            looksAtMethods(c, names);
        }
        looksAtMethods(OneWire.class, names);
    }

    private static void looksAtMethods(Class<?> c, Set<String> names) {
        for (Method m : c.getDeclaredMethods()) {
            CHECK.that("at most seven parameters: " + m, m.getParameterCount() <= 7);
            CHECK.that("a name of its own: " + m, Modifier.isPublic(m.getModifiers()) || !names.contains(m.getName()));
        }
        int own = 0;
        for (Field f : c.getDeclaredFields()) {
            boolean constant = Modifier.isStatic(f.getModifiers());
            CHECK.that("static is final: " + f, !constant || Modifier.isFinal(f.getModifiers()));
            own += constant ? 0 : 1;
        }
        CHECK.that("at most twenty fields: " + c, own <= 20);
    }

    private static void wordsOfTheText() throws IOException {
        String text = Files.readString(Path.of("src/main/java/OneWire.java"));
        String code = text.replaceAll("(?s)/\\*.*?\\*/", "").replaceAll("//[^\n]*", "");
        String[] words = {"\\bthrow\\b", "\\bthrows\\b", "\\btry\\b", "\\bcatch\\b", "\\bsynchronized\\b", "\\bassert\\b",
            "->", "::", "\\bprotected\\b", "\\bpackage\\b", "Exact\\b", "\\bObject\\b", "\\bdouble\\b", "\\bfloat\\b",
            "\\bnative\\b", "\\bvolatile\\b", "\\bstatic\\s*\\{", "hashCode", "toString", "\\bvar\\b"};
        for (String word : words) {
            Matcher m = Pattern.compile(word).matcher(code);
            CHECK.that("not in the language: " + word, !m.find());
        }
        Matcher imports = Pattern.compile("import ([^;]*);").matcher(code);
        while (imports.find()) {
            CHECK.that("import " + imports.group(1), imports.group(1).equals("java.util.Arrays"));
        }
        CHECK.that("plain signs", text.chars().allMatch(sign -> sign < 128));
    }
}
