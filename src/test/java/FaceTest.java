import java.lang.reflect.Constructor;
import java.lang.reflect.Field;
import java.lang.reflect.Member;
import java.lang.reflect.Method;
import java.lang.reflect.Modifier;
import java.nio.file.Files;
import java.nio.file.Path;
import java.util.ArrayList;
import java.util.Arrays;
import java.util.List;
import java.util.TreeSet;
import java.util.regex.Matcher;
import java.util.regex.Pattern;

/** The class has the document's face and no more, and its text keeps to LANGUAGE.md where that can be seen. */
public final class FaceTest {
    private static final String[] FACE = {
        "builder int int int", "of int int", "wall int int", "hindrance int int", "oath int int", "type int", "bargain", "count int",
        "day int", "use int", "drift int", "undo", "seed int", "odds", "oddsAt int int", "sure int", "pace int int", "plan int int",
        "best int int", "soonest int", "mean int int", "image", "restore", "weather int int int int int", "film int int int int int",
        "sheet int int int", "drop int", "item int int int long", "copy int int int int int",
    };
    private static final String[] CONSTANTS = {"BAD", "NOT", "FULL", "NONE", "NULL", "CAST", "INDEX", "SIZE"};
    private static final int[] VALUES = {-1, -2, -3, -4, -11, -12, -13, -14};
    private static final Due due = new Due("FaceTest");

    public static void main(String[] args) throws Exception {
        face();
        constants();
        inside();
        text();
        due.end();
    }

    private static void face() {
        Class<?> c = SummerWall.class;
        due.that("public and final", Modifier.isPublic(c.getModifiers()) && Modifier.isFinal(c.getModifiers()));
        TreeSet<String> seen = new TreeSet<>();
        for (Method m : c.getDeclaredMethods()) {
            if (!Modifier.isPrivate(m.getModifiers())) {
                due.that(m + " answers an int", m.getReturnType() == int.class && !Modifier.isStatic(m.getModifiers()));
                seen.add(signature(m));
            }
        }
        due.that("the document's methods: " + seen, seen.equals(new TreeSet<>(Arrays.asList(FACE))));
        Constructor<?>[] made = c.getDeclaredConstructors();
        due.that("one constructor", made.length == 1 && made[0].getParameterCount() == 0 && Modifier.isPublic(made[0].getModifiers()));
    }

    private static String signature(Method m) {
        StringBuilder b = new StringBuilder(m.getName());
        for (Class<?> p : m.getParameterTypes()) {
            b.append(' ').append(p.getName());
        }
        return b.toString();
    }

    private static void constants() throws Exception {
        for (int k = 0; k < CONSTANTS.length; k++) {
            Field f = SummerWall.class.getField(CONSTANTS[k]);
            due.is(CONSTANTS[k], f.getInt(null), VALUES[k]);
        }
        int open = 0;
        for (Field f : SummerWall.class.getDeclaredFields()) {
            if (!Modifier.isPrivate(f.getModifiers())) {
                open++;
            }
        }
        due.is("no other field is open", open, CONSTANTS.length);
    }

    private static void inside() {
        List<String> open = new ArrayList<>();
        for (String s : FACE) {
            open.add(s.split(" ")[0]);
        }
        Class<?>[] classes = SummerWall.class.getDeclaredClasses();
        due.that("at most twelve classes", classes.length + 1 <= 12);
        List<Member> members = new ArrayList<>();
        for (Method m : SummerWall.class.getDeclaredMethods()) {
            if (Modifier.isPrivate(m.getModifiers())) {
                members.add(m);
            }
        }
        for (Class<?> c : classes) {
            int mods = c.getModifiers();
            due.that(c + " is static, not open", Modifier.isStatic(mods) && !Modifier.isPublic(mods) && !Modifier.isProtected(mods));
            members.addAll(Arrays.asList(c.getDeclaredMethods()));
            int own = 0;
            for (Field f : c.getDeclaredFields()) {
                boolean fixed = Modifier.isStatic(f.getModifiers());
                due.that(f + " is final if static", !fixed || Modifier.isFinal(f.getModifiers()));
                own += fixed ? 0 : 1;
            }
            due.that(c + " has some twenty fields at most", own <= 20);
        }
        for (Member m : members) {
            due.that(m + " bears no name of the face", !open.contains(m.getName()));
            due.that(m + " takes seven at most", !(m instanceof Method) || ((Method) m).getParameterCount() <= 7);
        }
    }

    private static void text() throws Exception {
        String text = Files.readString(Path.of("src/main/java/SummerWall.java"));
        for (int k = 0; k < text.length(); k++) {
            due.that("plain letters alone", text.charAt(k) < 127);
        }
        String[] shut = {"import ", "package ", "catch", "finally", "throw", "synchronized", "assert", "->", "::", "@", "instanceof Object",
            "Math.random", "System.out", "System.currentTime", "System.nano", "Exact(", "hashCode", "toString", ".equals(", "double", "float"};
        for (String s : shut) {
            due.that("nowhere: " + s, !text.contains(s));
        }
        library(text);
        int longest = 0, start = -1;
        String[] lines = text.split("\n");
        for (int k = 0; k < lines.length; k++) {
            String indent = lines[k].replaceAll("\\S.*", "");
            if (lines[k].matches("\\s+.*\\) \\{") && (indent.length() == 4 || indent.length() == 8) && !lines[k].trim().matches("(if|for|while|switch).*")) {
                start = k;
            } else if (start >= 0 && lines[k].trim().equals("}") && lines[k].length() == indent.length() + 1 && indent.length() <= 8) {
                longest = Math.max(longest, k - start);
            }
        }
        due.that("methods stay short: " + longest, longest <= 60 && longest > 3);
    }

    /** Of the library (rule 4) no more than these; all other names that begin like a class's are of classes inside. */
    private static void library(String text) {
        String code = text.replaceAll("(?s)/\\*.*?\\*/", "").replaceAll("//[^\n]*", "");
        TreeSet<String> own = new TreeSet<>(Arrays.asList("SummerWall"));
        for (Class<?> c : SummerWall.class.getDeclaredClasses()) {
            own.add(c.getSimpleName());
        }
        Matcher name = Pattern.compile("\\b([A-Z]\\w*[a-z]\\w*)(\\.\\w+)?").matcher(code);
        List<String> may = Arrays.asList("Math.min", "Integer.bitCount", "System.arraycopy");
        int found = 0;
        while (name.find()) {
            due.that("of the library: " + name.group(), own.contains(name.group(1)) || may.contains(name.group()));
            found++;
        }
        due.that("names were found", found > 20);
    }
}
