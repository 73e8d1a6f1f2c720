import java.io.IOException;
import java.lang.reflect.Constructor;
import java.lang.reflect.Field;
import java.lang.reflect.Method;
import java.lang.reflect.Modifier;
import java.nio.file.Files;
import java.nio.file.Path;
import java.util.Arrays;
import java.util.Set;
import java.util.TreeSet;
import java.util.regex.Matcher;
import java.util.regex.Pattern;

/** The public face, and the rules of LANGUAGE.md that can be seen from outside. */
public final class FaceTest {
    private static final String[] METHODS = {
        "king int int", "of int int", "arm int int", "worth int int int", "pact int int int", "feed long int", "world",
        "cost int int", "force int int", "standing int int", "block int int int", "comes int int int int",
        "war int int int int", "dares int int int", "first int", "keeps int int int", "empty int", "all int",
        "quiet int int boolean", "lead int int int", "next int", "edge int", "courted", "race int", "few int int",
        "guarded int", "marry int int int int", "act int int int", "trace int", "as int int", "image", "undo",
        "count int"};

    public static void main(String[] args) throws IOException {
        face();
        inside();
        language();
        Due.end("FaceTest");
    }

    private static void face() {
        int flags = KingsBalance.class.getModifiers();
        Due.is("the class is public and final", flags & (Modifier.PUBLIC | Modifier.FINAL), Modifier.PUBLIC | Modifier.FINAL);
        Set<String> seen = new TreeSet<>();
        Set<String> names = new TreeSet<>();
        for (Method m : KingsBalance.class.getDeclaredMethods()) {
            if (Modifier.isPrivate(m.getModifiers()) || m.isSynthetic()) continue;
            StringBuilder line = new StringBuilder(m.getName());
            for (Class<?> type : m.getParameterTypes()) line.append(' ').append(type.getName());
            seen.add(line.toString());
            names.add(m.getName());
            Class<?> due = m.getName().equals("war") ? long.class : int.class;
            Due.is(m.getName() + " is public", m.getModifiers(), Modifier.PUBLIC);
            Due.is(m.getName() + " answers its type", m.getReturnType() == due ? 1 : 0, 1);
        }
        Due.is("the methods " + seen, seen.equals(new TreeSet<>(Arrays.asList(METHODS))) ? 1 : 0, 1);
        for (Method m : KingsBalance.class.getDeclaredMethods()) {
            if (Modifier.isPrivate(m.getModifiers())) Due.is("no private " + m.getName(), names.contains(m.getName()) ? 1 : 0, 0);
        }
        Set<String> constants = new TreeSet<>();
        for (Field f : KingsBalance.class.getDeclaredFields()) {
            if (Modifier.isPrivate(f.getModifiers())) continue;
            constants.add(f.getName() + " " + f.getType());
            Due.is(f.getName() + " is a constant", f.getModifiers(), Modifier.PUBLIC | Modifier.STATIC | Modifier.FINAL);
        }
        Due.is("the constants " + constants, constants.toString().equals("[BAD int, FULL int, NO long, NONE int, STATE int]") ? 1 : 0, 1);
        Constructor<?>[] made = KingsBalance.class.getDeclaredConstructors();
        Due.is("one constructor", made.length, 1);
        Due.is("without parameters", made[0].getParameterCount(), 0);
    }

    private static void inside() {
        Class<?>[] classes = KingsBalance.class.getDeclaredClasses();
        Due.is("some twelve classes at most", classes.length <= 11 ? 1 : 0, 1);
        for (Class<?> c : classes) {
            Due.is(c.getName() + " is static", Modifier.isStatic(c.getModifiers()) ? 1 : 0, 1);
            Due.is(c.getName() + " is not public", c.getModifiers() & (Modifier.PUBLIC | Modifier.PROTECTED), 0);
            int fields = 0;
            for (Field f : c.getDeclaredFields()) if (!Modifier.isStatic(f.getModifiers())) fields++;
            Due.is(c.getName() + " has some twenty fields at most", fields <= 20 ? 1 : 0, 1);
        }
    }

    private static void language() throws IOException {
        String text = Files.readString(Path.of("src/main/java/KingsBalance.java"));
        String code = text.replaceAll("(?s)/\\*.*?\\*/", "").replaceAll("//[^\n]*", "").replaceAll("\"[^\"\n]*\"", "\"\"");
        String[] banned = {"\\b(throw|throws|try|catch|finally|synchronized|assert|import|package|volatile|transient|native)\\b",
            "->", "::", "@", "static\\s*\\{", "Exact\\b", "\"\"\\s*\\+", "\\+\\s*\"\"", "\\bdouble\\b|\\bfloat\\b", "hashCode|toString",
            "System\\.(?!arraycopy)", "Math\\.(?!(abs|max|min)\\b)", "\\bprotected\\b", "while\\s*\\("};
        for (String word : banned) {
            Matcher m = Pattern.compile(word).matcher(code);
            Due.is("the source has no " + word, m.find() ? 1 : 0, 0);
        }
        for (int i = 0; i < text.length(); i++) {
            if (text.charAt(i) > 126) Due.is("the source's sign at " + i, text.charAt(i), 0);
        }
    }
}
