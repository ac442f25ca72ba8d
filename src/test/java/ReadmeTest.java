import java.io.IOException;
import java.lang.reflect.Method;
import java.nio.file.Files;
import java.nio.file.Path;
import java.util.Set;
import java.util.TreeSet;
import java.util.regex.Matcher;
import java.util.regex.Pattern;

/** README.md: each call of its example answers the number beside it; each call of the face is named. */
public final class ReadmeTest {
    private static final Pattern TEXT = Pattern.compile("for \\(char c : \"(.*)\"\\.toCharArray\\(\\)\\) office\\.type\\(c\\);");
    private static final Pattern CALL = Pattern.compile("office\\.(\\w+)\\(([-0-9, ]*)\\); *// (-?\\d+)\\b.*");

    public static void main(String[] args) throws IOException, ReflectiveOperationException {
        String readme = Files.readString(Path.of("README.md"));
        int wrong = calls(readme) + names(readme);
        if (wrong == 0) System.out.println("ReadmeTest: all answers are as README.md says");
        System.exit(wrong == 0 ? 0 : 1);
    }

    private static int calls(String readme) throws ReflectiveOperationException {
        TieOffice office = new TieOffice();
        int wrong = 0;
        int found = 0;
        for (String row : readme.split("\n")) {
            Matcher text = TEXT.matcher(row);
            if (text.matches()) for (char c : text.group(1).toCharArray()) office.type(c);
            Matcher call = CALL.matcher(row);
            if (!call.matches()) {
                if (row.startsWith("office.")) wrong += tell("a row that tells no answer: " + row);
                continue;
            }
            found++;
            long got = answer(office, call.group(1), call.group(2));
            if (got != Long.parseLong(call.group(3))) wrong += tell(row + " answered " + got);
        }
        return found > 0 ? wrong : wrong + tell("no example");
    }

    private static long answer(TieOffice office, String name, String list) throws ReflectiveOperationException {
        String[] words = list.isBlank() ? new String[0] : list.split(", *");
        Class<?>[] types = new Class<?>[words.length];
        Object[] numbers = new Object[words.length];
        for (int i = 0; i < words.length; i++) {
            types[i] = int.class;
            numbers[i] = Integer.parseInt(words[i].trim());
        }
        return ((Number) TieOffice.class.getMethod(name, types).invoke(office, numbers)).longValue();
    }

    private static int names(String readme) {
        Set<String> missing = new TreeSet<>();
        for (Method m : TieOffice.class.getDeclaredMethods()) {
            boolean isOpen = java.lang.reflect.Modifier.isPublic(m.getModifiers());
            if (isOpen && !readme.contains("`" + m.getName() + "`")) missing.add(m.getName());
        }
        return missing.isEmpty() ? 0 : tell("calls that are not named: " + missing);
    }

    private static int tell(String what) {
        System.out.println("README.md: " + what);
        return 1;
    }
}
