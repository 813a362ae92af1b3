import java.lang.reflect.Method;
import java.lang.reflect.Modifier;
import java.nio.file.Files;
import java.nio.file.Path;
import java.util.Set;
import java.util.TreeSet;
import java.util.regex.Matcher;
import java.util.regex.Pattern;

/** The runs of calls that README.md shows: each call has its answer beside it, and the class gives it. */
public final class ReadmeTest {
    private static final Pattern BLOCK = Pattern.compile("(?s)```java\n(.*?)```");
    private static final Pattern CALL = Pattern.compile("desk\\.(\\w+)\\(([^)]*)\\);\\s+// (-?\\d+)(:.*)?");
    private static final String MAKER = "MorseDesk desk = new MorseDesk();";

    private static final Set<String> shown = new TreeSet<>();
    private static MorseDesk desk;
    private static int wrong;

    public static void main(String[] args) throws Exception {
        Matcher blocks = BLOCK.matcher(Files.readString(Path.of("README.md")));
        while (blocks.find()) {
            desk = null;
            for (String line : blocks.group(1).split("\n")) {
                runLine(line.strip());
            }
        }
        for (Method method : MorseDesk.class.getDeclaredMethods()) {
            if (Modifier.isPublic(method.getModifiers()) && !shown.contains(method.getName())) {
                tellWrong("no run shows " + method.getName());
            }
        }
        System.out.println(wrong == 0 ? "README.md shows what the class answers" : wrong + " lines are wrong");
        if (wrong != 0) {
            System.exit(1);
        }
    }

    private static void tellWrong(String what) {
        wrong++;
        System.out.println("README.md: " + what);
    }

    private static void runLine(String line) throws Exception {
        Matcher call = CALL.matcher(line);
        if (line.equals(MAKER)) {
            desk = new MorseDesk();
        } else if (desk != null && call.matches()) {
            long got = answer(call.group(1), call.group(2));
            if (got != Long.parseLong(call.group(3))) {
                tellWrong(line + " (the class answers " + got + ")");
            }
        } else if (!line.isEmpty()) {
            tellWrong("neither a call with its answer nor a new object: " + line);
        }
    }

    private static long answer(String name, String given) throws Exception {
        String[] texts = given.isEmpty() ? new String[0] : given.split(", ");
        Object[] values = new Object[texts.length];
        Class<?>[] types = new Class<?>[texts.length];
        for (int i = 0; i < texts.length; i++) {
            values[i] = texts[i].equals("MorseDesk.NONE") ? MorseDesk.NONE : Long.decode(texts[i]).intValue();
            types[i] = int.class;
        }
        shown.add(name);
        return ((Number) MorseDesk.class.getMethod(name, types).invoke(desk, values)).longValue();
    }
}
