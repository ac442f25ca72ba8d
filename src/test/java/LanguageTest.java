import java.io.IOException;
import java.lang.reflect.Constructor;
import java.lang.reflect.Field;
import java.lang.reflect.Method;
import java.lang.reflect.Modifier;
import java.nio.file.Files;
import java.nio.file.Path;
import java.util.Set;
import java.util.TreeSet;
import java.util.regex.Matcher;
import java.util.regex.Pattern;

/** What can be looked up of LANGUAGE.md: the face, the words that are left out, the sizes. */
public final class LanguageTest {
    private static final Set<String> FACE = new TreeSet<>(Set.of(
        "int type(int)", "int clear()", "int reads()", "int line(int,int)", "int place(int,int)", "int between(int,int)",
        "int load(int,int)", "int closes(int)", "int opens(int)", "int falls(int)", "int mends(int)", "int ring(int,int)",
        "long gain(int,int)", "int exchanges(int,int)", "int best(int)", "int lessens()", "long reach(int,int)",
        "int cure(int,int)", "int cures()", "long all(int)", "int back()", "int told(int)", "long digest()"));
    private static final String[] LEFT_OUT = {
        "throw", "throws", "try", "catch", "finally", "synchronized", "assert", "System\\.(?!arraycopy)", "->", "::", "var",
        "Exact", "Object", "Override", "hashCode", "toString", "double", "float", "import java\\.(?!util\\.Arrays;)", "package"};

    private static int wrong = 0;

    private static void must(boolean holds, String what) {
        if (!holds) {
            wrong++;
            System.out.println("LANGUAGE.md: " + what);
        }
    }

    public static void main(String[] args) throws IOException {
        face();
        Set<String> names = new TreeSet<>();
        for (String signature : FACE) names.add(signature.replaceAll(".* |\\(.*", ""));
        must(TieOffice.class.getDeclaredClasses().length <= 12, "some twelve classes");
        checkClass(TieOffice.class, names);
        for (Class<?> inside : TieOffice.class.getDeclaredClasses()) {
            must(Modifier.isStatic(inside.getModifiers()), inside + " is not static");
            must(!Modifier.isPublic(inside.getModifiers()), inside + " is public");
            checkClass(inside, names);
        }
        words(Files.readString(Path.of("src/main/java/TieOffice.java")));
        if (wrong == 0) System.out.println("LanguageTest: nothing found");
        System.exit(wrong == 0 ? 0 : 1);
    }

    private static void face() {
        Class<?> c = TieOffice.class;
        must(Modifier.isPublic(c.getModifiers()) && Modifier.isFinal(c.getModifiers()), "public and final");
        Set<String> open = new TreeSet<>();
        for (Method m : c.getDeclaredMethods()) {
            if (Modifier.isPrivate(m.getModifiers()) || m.isSynthetic()) continue;
            must(Modifier.isPublic(m.getModifiers()) && !Modifier.isStatic(m.getModifiers()), m + " is not as told");
            StringBuilder types = new StringBuilder();
            for (Class<?> p : m.getParameterTypes()) types.append(types.length() > 0 ? "," : "").append(p);
            open.add(m.getReturnType() + " " + m.getName() + "(" + types + ")");
        }
        must(open.equals(FACE), "the face is " + open);
        Constructor<?>[] made = c.getDeclaredConstructors();
        must(made.length == 1 && Modifier.isPublic(made[0].getModifiers()) && made[0].getParameterCount() == 0, "one constructor");
        int constants = 0;
        for (Field f : c.getDeclaredFields()) if (!Modifier.isPrivate(f.getModifiers())) constants++;
        must(constants == 5, "five constants");
        must(TieOffice.NONE == -1 && TieOffice.BAD == -2 && TieOffice.NO == -3 && TieOffice.FULL == -4
            && TieOffice.SPENT == -5, "the constants");
    }

    private static void checkClass(Class<?> c, Set<String> names) {
        int fields = 0;
        for (Field f : c.getDeclaredFields()) {
            boolean fixed = Modifier.isStatic(f.getModifiers());
            if (!fixed) fields++;
            must(!fixed || Modifier.isFinal(f.getModifiers()), f + " is static and not final");
            must(!fixed || f.getType() == int.class || f.getType() == long.class, f + " is static and no number");
        }
        must(fields <= 20, c + " has " + fields + " fields");
        for (Method m : c.getDeclaredMethods()) {
            must(m.getParameterCount() <= 7, m + " has too many parameters");
            must(Modifier.isPublic(m.getModifiers()) || !names.contains(m.getName()), m + " bears the name of a public one");
        }
    }

    private static void words(String source) {
        String code = source.replaceAll("(?s)/\\*.*?\\*/|//[^\n]*", "");
        for (String word : LEFT_OUT) {
            boolean plain = Character.isLetter(word.charAt(0)) && Character.isLetter(word.charAt(word.length() - 1));
            Matcher m = Pattern.compile(plain ? "\\b" + word + "\\b" : word).matcher(code);
            must(!m.find(), "the word " + word);
        }
        int begin = 0;
        String[] rows = source.split("\n");
        for (int i = 0; i < rows.length; i++) {
            if (rows[i].matches(" {4,8}[a-zA-Z].*\\) \\{")) begin = i;
            if (rows[i].matches(" {4,8}\\}")) must(i - begin < 60, "a method of over sixty lines at line " + (begin + 1));
        }
        for (char c : source.toCharArray()) must(c == '\n' || c >= ' ' && c < 127, "a sign " + (int) c);
    }
}
