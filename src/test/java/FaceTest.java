import java.lang.reflect.Constructor;
import java.lang.reflect.Field;
import java.lang.reflect.Method;
import java.lang.reflect.Modifier;
import java.nio.file.Files;
import java.nio.file.Path;
import java.util.ArrayList;
import java.util.Arrays;
import java.util.List;
import java.util.Set;
import java.util.TreeSet;
import java.util.regex.Matcher;
import java.util.regex.Pattern;

/** The public face is just that of the document, and the source keeps to the rules that can be read off it. */
public final class FaceTest {
    private static final String[] FACE = {
        "int feed(int,int,int,int,int)", "int end(int)", "int complex()", "int simplex(int,int)",
        "int number(int)", "int sign(int,int)", "int pair(int,int)", "int part(int)", "int auto(int)",
        "int cancel(int,int)", "int collapse(int)", "int undo()", "int critical(int,int)",
        "long paths(int,int)", "int path(int,int,int,int)", "long incidence(int,int)",
        "long chain(int,int)", "int root(int,int)", "long through(int,int,int)", "int squares()",
        "int betti(int,int)", "long torsion(int,int,int)", "int slack(int)", "int free(int)",
        "int facet(int)", "int link(int,int)", "int room(int)", "int draws(int)", "int drawn(int,int)",
        "int level(int,int)", "int levelBetti(int,int)", "int keep(int)", "int same(int)", "int count(int)",
    };
    private static final String[] FORBIDDEN = {
        "throw", "throws", "try", "catch", "synchronized", "assert", "Exact", "->", "::", "Random",
        "Thread", "java\\.(?!util\\.Arrays;)", "equals", "hashCode", "toString",
        "protected", "volatile", "transient", "native",
    };
    private static final Set<String> LIBRARY = Set.of(
        "System.arraycopy", "Arrays.fill", "Arrays.copyOf", "Arrays.copyOfRange", "Integer.bitCount", "Long.bitCount",
        "Math.abs", "Math.min", "Math.max", "Math.floorDiv", "Math.floorMod");
    private static final int LONGEST_METHOD = 60;
    private static final List<String> wrong = new ArrayList<>();

    public static void main(String[] args) throws Exception {
        checkMembers();
        checkSource(Files.readString(Path.of("src/main/java/MorseDesk.java")));
        wrong.forEach(System.out::println);
        if (!wrong.isEmpty()) {
            System.exit(1);
        }
    }

    private static void due(boolean right, String what) {
        if (!right) {
            wrong.add(what);
        }
    }

    private static void checkMembers() throws Exception {
        Class<?> desk = MorseDesk.class;
        due(Modifier.isPublic(desk.getModifiers()) && Modifier.isFinal(desk.getModifiers()), "public and final");
        Set<String> found = new TreeSet<>();
        Set<String> open = new TreeSet<>();
        Set<String> hidden = new TreeSet<>();
        for (Method m : desk.getDeclaredMethods()) {
            if (m.isSynthetic()) {
                continue;
            }
            StringBuilder face = new StringBuilder(m.getReturnType() + " " + m.getName() + "(");
            for (int i = 0; i < m.getParameterCount(); i++) {
                face.append(i == 0 ? "" : ",").append(m.getParameterTypes()[i]);
            }
            if (Modifier.isPrivate(m.getModifiers())) {
                hidden.add(m.getName());
                continue;
            }
            due(Modifier.isPublic(m.getModifiers()), "not private, not public: " + m);
            open.add(m.getName());
            found.add(face.append(")").toString());
        }
        due(found.equals(new TreeSet<>(Arrays.asList(FACE))), "the methods are " + found);
        for (String name : hidden) {
            due(!open.contains(name), "a private method has a public name: " + name);
        }
        for (Field f : desk.getDeclaredFields()) {
            boolean none = f.getName().equals("NONE") && Modifier.isPublic(f.getModifiers());
            due(f.isSynthetic() || none || Modifier.isPrivate(f.getModifiers()), "a field that is not private: " + f);
        }
        due(desk.getField("NONE").getInt(null) == -1, "NONE is -1");
        Constructor<?>[] makers = desk.getDeclaredConstructors();
        due(makers.length == 1 && Modifier.isPublic(makers[0].getModifiers()), "one public constructor");
        due(makers[0].getParameterCount() == 0, "the constructor takes nothing");
        checkInside(desk, open);
    }

    private static void checkInside(Class<?> desk, Set<String> open) {
        due(desk.getDeclaredClasses().length <= 11, "some twelve classes at most");
        for (Class<?> inside : desk.getDeclaredClasses()) {
            int kind = inside.getModifiers();
            due(Modifier.isStatic(kind), inside + " is static");
            due(!Modifier.isPublic(kind) && !Modifier.isProtected(kind), inside + " is not open");
            due(inside.getDeclaredFields().length <= 20, inside + " has some twenty fields at most");
            for (Method m : inside.getDeclaredMethods()) {
                due(m.isSynthetic() || !open.contains(m.getName()), m + " has a public name");
                due(m.getParameterCount() <= 7, m + " has seven parameters at most");
            }
        }
    }

    private static void checkSource(String text) {
        String code = text.replaceAll("(?s)/\\*.*?\\*/", "").replaceAll("//[^\n]*", "");
        for (String word : FORBIDDEN) {
            boolean plain = Character.isLetter(word.charAt(0)) && word.matches("\\w+");
            Matcher m = Pattern.compile(plain ? "\\b" + word + "\\b" : word).matcher(code);
            due(!m.find(), "forbidden: " + word);
        }
        // Rows are made in constructors: no 'new' may stand in a method.
        for (String line : code.split("\n")) {
            boolean field = line.matches("\\s+final \\w+\\[\\] \\w+ = new \\w+\\[.*\\];");
            boolean maker = line.matches("\\s+\\w+ = new \\w+\\(.*\\);");
            due(!line.contains("new ") || field || maker, "made outside a constructor: " + line.trim());
        }
        for (char c : text.toCharArray()) {
            if (c > 127) {
                due(false, "a sign above 127");
                break;
            }
        }
        checkLibrary(code);
        checkLengths(code);
    }

    /** Rule 4: functions of the library, and only listed ones; its constants are not listed. */
    private static void checkLibrary(String code) {
        Matcher m = Pattern.compile("\\b[A-Z]\\w*\\.\\w+").matcher(code);
        while (m.find()) {
            due(LIBRARY.contains(m.group()), "not listed: " + m.group());
        }
    }

    /** A method begins and ends at one and the same depth: four blanks, eight in a class inside. */
    private static void checkLengths(String code) {
        String head = "(?m)^( {4}| {8})(?! |if |for |while |switch )[^\n]*\\) \\{\n";
        Matcher m = Pattern.compile(head + "(?s:.*?)\n\\1\\}$").matcher(code);
        int seen = 0;
        while (m.find()) {
            int lines = m.group().split("\n").length;
            due(lines <= LONGEST_METHOD, "a method of " + lines + " lines: " + m.group().trim().split("\n")[0]);
            seen++;
        }
        due(seen > FACE.length, "only " + seen + " methods were seen");
    }
}
