import java.io.IOException;
import java.lang.reflect.Field;
import java.lang.reflect.Method;
import java.lang.reflect.Modifier;
import java.nio.charset.StandardCharsets;
import java.nio.file.Files;
import java.nio.file.Path;
import java.util.ArrayList;
import java.util.List;
import java.util.Set;
import java.util.TreeSet;
import java.util.regex.Matcher;
import java.util.regex.Pattern;

/** What of LANGUAGE.md can be seen from the text and from the class itself; run it from the project's folder. */
public final class LanguageTest {
    private static int wrong = 0;

    private static void wrong(String what) {
        wrong++;
        System.out.println("LanguageTest: " + what);
    }

    private static String shape(Method m) {
        StringBuilder s = new StringBuilder(m.getReturnType() + " " + m.getName());
        for (Class<?> type : m.getParameterTypes()) {
            s.append(" ").append(type);
        }
        return s.toString();
    }

    private static void face() {
        String[] due = {"int feed int int int int int", "int hall int", "int fault", "int where", "long fullest int int int boolean", "long empty int int int boolean",
            "long holds int int int int boolean", "long mean int int int boolean", "int states int int", "int worst int int boolean", "long lies int int boolean",
            "int compare int int int int", "int never int int", "int best int int int", "long bestChance int int int boolean", "int likely", "int cannot int",
            "boolean day int int", "int put int", "long goes int boolean", "int place int", "int box int", "int recall", "int mark", "boolean back int",
            "int porter int int", "int boxOf int boolean", "int led int", "int size int", "int trouble"};
        Set<String> open = new TreeSet<>();
        Set<String> names = new TreeSet<>();
        for (Method m : EmptierOfTwo.class.getDeclaredMethods()) {
            if (!Modifier.isPrivate(m.getModifiers())) {
                open.add(shape(m));
                names.add(m.getName());
            }
        }
        if (!open.equals(new TreeSet<>(List.of(due)))) {
            wrong("rule 1: the face is " + open);
        }
        List<Class<?>> classes = new ArrayList<>(List.of(EmptierOfTwo.class.getDeclaredClasses()));
        classes.add(EmptierOfTwo.class);
        for (Class<?> c : classes) {
            for (Method m : c.getDeclaredMethods()) {
                boolean own = c == EmptierOfTwo.class && !Modifier.isPrivate(m.getModifiers());
                if (!own && names.contains(m.getName())) {
                    wrong("rule 1: " + c + " has a " + m.getName());
                }
                if (m.getParameterCount() > 7) {
                    wrong("rule 11: " + m);
                }
            }
            int fields = 0;
            for (Field f : c.getDeclaredFields()) {
                boolean fixed = Modifier.isStatic(f.getModifiers());
                fields += fixed ? 0 : 1;
                if (fixed && !Modifier.isFinal(f.getModifiers())) {
                    wrong("rule 5: " + f);
                }
                if (c == EmptierOfTwo.class && !Modifier.isPrivate(f.getModifiers()) && !f.getName().equals("NONE")) {
                    wrong("rule 1: " + f);
                }
            }
            if (fields > 20) {
                wrong("rule 11: " + fields + " fields in " + c);
            }
        }
        if (classes.size() > 12) {
            wrong("rule 11: " + classes.size() + " classes");
        }
    }

    private static void text(String source) {
        String[] never = {"->", "::", "\\bcatch\\b", "\\bfinally\\b", "\\btry\\b", "\\bsynchronized\\b", "\\bassert\\b", "while \\(true\\)", "for \\(;;\\)", "\\bMath\\.\\w+Exact\\b",
            "\\bSystem\\.(?!arraycopy)", "\\bvar\\b", "\\bprotected\\b", "Override", "static \\{", "[^\\x00-\\x7e]", "^package", "import (?!java\\.util\\.NoSuchElementException;)"};
        for (String sign : never) {
            Matcher m = Pattern.compile(sign, Pattern.MULTILINE).matcher(source);
            if (m.find()) {
                wrong("the text has " + m.group());
            }
        }
        int from = 0;
        String[] lines = source.split("\n");
        for (int i = 0; i < lines.length; i++) {
            if (lines[i].matches(" {4}( {4})?\\S.*\\) (throws \\w+ )?\\{")) {
                from = i;
            }
            if (lines[i].matches(" {4}( {4})?\\}") && i - from > 60) {
                wrong("rule 11: the method at line " + (from + 1) + " is long");
            }
        }
    }

    public static void main(String[] args) throws IOException {
        face();
        text(Files.readString(Path.of("src/main/java/EmptierOfTwo.java"), StandardCharsets.ISO_8859_1));
        System.out.println(wrong == 0 ? "LanguageTest: all as due" : "LanguageTest: " + wrong + " wrong");
        if (wrong != 0) {
            System.exit(1);
        }
    }
}
