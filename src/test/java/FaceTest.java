import java.lang.reflect.Constructor;
import java.lang.reflect.Field;
import java.lang.reflect.Method;
import java.lang.reflect.Modifier;
import java.nio.file.Files;
import java.nio.file.Path;
import java.util.ArrayList;
import java.util.Arrays;
import java.util.HashSet;
import java.util.List;
import java.util.Set;
import java.util.regex.Matcher;
import java.util.regex.Pattern;

/** The public face is the document's and no more, and the source keeps to the rules that a test can see. */
public final class FaceTest {
    private static final String[] FACE = {
        "int feed 1", "int end 1", "int text 0", "int fault 0", "int rule 1", "int dog 2", "int sign 1", "int jam 2",
        "int alter 3", "int set 2", "int add 1", "int cut 1", "int stick 2", "int clear 1", "int bone 1",
        "int ticks 1", "int runs 2", "int ahead 3", "int when 0",
        "int need 2", "int most 2", "int kind 3", "int swap 2", "int sleep 2",
        "long luck 3", "long mean 3", "int see 2", "int forget 1", "int kinds 1", "int limits 1", "int ask 2",
        "int drift 3", "int keep 1", "int back 1", "int sheet 3", "int lay 3", "int read 4", "int torn 0", "int count 1",
    };
    private static final String[] FORBIDDEN = {
        "throw", "throws", "try", "catch", "finally", "synchronized", "assert", "var", "native", "import static",
    };

    private static final String LIBRARY = "Arrays\\.(copyOf|copyOfRange|fill)|System\\.arraycopy|List\\.of"
        + "|Math\\.(max|min|abs|floorDiv|floorMod)|(Integer|Long)\\.(compare|max|min|bitCount)";
    private static final int LONGEST_METHOD = 60;

    public static void main(String[] args) throws Exception {
        constants();
        members();
        nestedClasses();
        source();
        Check.finish();
    }

    private static void constants() {
        Check.due("BAD", WatchDogs.BAD, -1);
        Check.due("STATE", WatchDogs.STATE, -2);
        Check.due("FULL", WatchDogs.FULL, -3);
        Check.due("NONE", WatchDogs.NONE, -4);
    }

    private static void members() {
        Class<?> face = WatchDogs.class;
        Check.holds("public final class", Modifier.isPublic(face.getModifiers()) && Modifier.isFinal(face.getModifiers()));
        Set<String> open = new HashSet<>();
        Set<String> hidden = new HashSet<>();
        for (Method m : face.getDeclaredMethods()) {
            if (Modifier.isPrivate(m.getModifiers())) {
                hidden.add(m.getName());
            } else {
                Check.holds("public, not static: " + m, m.getModifiers() == Modifier.PUBLIC);
                open.add(m.getReturnType() + " " + m.getName() + " " + m.getParameterCount());
                for (Class<?> p : m.getParameterTypes()) {
                    Check.holds("int parameter: " + m, p == int.class);
                }
            }
            Check.holds("seven parameters at most: " + m, m.getParameterCount() <= 7);
        }
        Check.holds("methods: " + open, open.equals(new HashSet<>(Arrays.asList(FACE))));
        for (String method : open) {
            Check.holds("no private method named as " + method, !hidden.contains(method.split(" ")[1]));
        }
        int constants = 0;
        for (Field f : face.getDeclaredFields()) {
            if (!Modifier.isPrivate(f.getModifiers())) {
                constants++;
                Check.holds("constant: " + f, f.getModifiers() == (Modifier.PUBLIC | Modifier.STATIC | Modifier.FINAL));
            }
        }
        Check.due("public constants", constants, 4);
        Constructor<?>[] made = face.getDeclaredConstructors();
        Check.due("constructors", made.length, 1);
        Check.holds("public WatchDogs()", Modifier.isPublic(made[0].getModifiers()) && made[0].getParameterCount() == 0);
    }

    private static void nestedClasses() {
        List<Class<?>> all = new ArrayList<>(List.of(WatchDogs.class.getDeclaredClasses()));
        Check.holds("some twelve classes at most", all.size() <= 12);
        String face = " " + String.join(" ", FACE) + " ";
        for (Class<?> c : all) {
            for (Method m : c.getDeclaredMethods()) {
                Check.holds("named unlike the face: " + m, !face.contains(" " + m.getName() + " "));
            }
            Check.holds("static: " + c, Modifier.isStatic(c.getModifiers()));
            Check.holds("private or package-visible: " + c, (c.getModifiers() & (Modifier.PUBLIC | Modifier.PROTECTED)) == 0);
        }
        all.add(WatchDogs.class);
        for (Class<?> c : all) {
            int fields = 0;
            for (Field f : c.getDeclaredFields()) {
                if (Modifier.isStatic(f.getModifiers())) {
                    Check.holds("static fields are final: " + f, Modifier.isFinal(f.getModifiers()));
                } else {
                    fields++;
                }
            }
            Check.holds("some twenty fields at most: " + c, fields <= 20);
        }
    }

    private static void source() throws Exception {
        String text = Files.readString(Path.of("src/main/java/WatchDogs.java"));
        String code = text.replaceAll("(?s)/\\*.*?\\*/", "").replaceAll("//[^\n]*", "").replaceAll("\"[^\"\n]*\"", "\"\"");
        for (String word : FORBIDDEN) {
            Check.holds("no " + word, !Pattern.compile("\\b" + word + "\\b").matcher(code).find());
        }
        Check.holds("no lambda", !code.contains("->"));
        Check.holds("no method reference", !code.contains("::"));
        Check.holds("no package line", !code.contains("package "));
        Matcher library = Pattern.compile("\\b(Arrays|System|Math|Integer|Long|List|String)\\.(\\w+)").matcher(code);
        while (library.find()) {
            Check.holds("allowed: " + library.group(), library.group().matches(LIBRARY));
        }
        shortMethods(code);
        Matcher imports = Pattern.compile("import ([^;]*);").matcher(code);
        while (imports.find()) {
            Check.holds("allowed: " + imports.group(1), imports.group(1).matches("java\\.util\\.(Arrays|ArrayList|List)"));
        }
        for (int i = 0; i < text.length(); i++) {
            if (text.charAt(i) > 126) {
                Check.holds("plain signs alone, at " + i, false);
            }
        }
    }

    /** A method begins with a head at the depth of a member and ends with the brace at that depth. */
    private static void shortMethods(String code) {
        String[] lines = code.split("\n", -1);
        int methods = 0;
        for (int i = 0; i < lines.length; i++) {
            Matcher head = Pattern.compile("( {4}| {8})(\\w[\\w\\[\\] ]*)\\(.*\\) \\{").matcher(lines[i]);
            if (head.matches() && !head.group(2).matches("(if|for|while|switch) ?")) {
                int end = i;
                while (end < lines.length && !lines[end].equals(head.group(1) + "}")) {
                    end++;
                }
                methods++;
                Check.holds("short: " + lines[i].trim(), end - i <= LONGEST_METHOD);
            }
        }
        Check.holds("methods found: " + methods, methods >= FACE.length);
    }
}
