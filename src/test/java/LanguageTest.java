import java.io.IOException;
import java.lang.reflect.Constructor;
import java.lang.reflect.Field;
import java.lang.reflect.Method;
import java.lang.reflect.Modifier;
import java.nio.charset.StandardCharsets;
import java.nio.file.Files;
import java.nio.file.Path;
import java.util.ArrayList;
import java.util.Arrays;
import java.util.HashSet;
import java.util.List;
import java.util.Set;
import java.util.TreeSet;
import java.util.regex.Matcher;
import java.util.regex.Pattern;

/** The face, as the document has it, and what of ../shared/LANGUAGE.md can be seen by looking. Run at the project's root. */
public final class LanguageTest {
    private static final String FACE = """
            int tide(int,int)
            int height(int)
            int come()
            int go(int,int,int)
            int at(int,int)
            int count(int)
            int feed(int,int,int,int,int,int)
            int text()
            int force(int)
            int asks(int,int,int,int,int)
            int island(int,int,int,int)
            int told(int,int)
            int then(int,int,int)
            int joined(int,int)
            int whose(int,int)
            int gain(int,int)
            int costs(int,int)
            int year(int,int)
            int best(int,int,int)
            int wise(int)
            int rest(int)
            int ways(int,int)
            int family(int,int,int)
            int spoil(int,int,int)
            int ransom(int,int,int)
            int share(int,int,int,int)
            int unfair(int,int,int)
            int dear(int)
            int holds(int,int,int)
            int judge(int,int)
            int when(int)
            int were(int,int,int,int)
            int film(int,int)
            int laws(int,int,int)
            int drawn(int,int,int,int)
            long mean(int,int,int,int,int)
            int image()
            int back()
            int sheet(int,int,int)
            int cell(int,int,int)
            int copy(int,int,int,int,int)
            int islandsBy(int,int,int,int)
            int taken(int,int)
            """;
    private static final String[] LIBRARY = {"Arrays.fill", "Arrays.copyOf", "System.arraycopy", "Math.max", "Math.min",
        "Math.abs", "Integer.numberOfTrailingZeros"};

    public static void main(String[] args) throws IOException {
        face();
        constants();
        classes();
        String source = Files.readString(Path.of("src/main/java/HighWater.java"), StandardCharsets.UTF_8);
        source(source);
        methodLengths(source);
        Due.end();
    }

    private static void face() {
        Set<String> found = new TreeSet<>();
        for (Method method : HighWater.class.getDeclaredMethods()) {
            if (method.isSynthetic() || Modifier.isPrivate(method.getModifiers())) {
                continue;
            }
            Due.isTrue(method.getName() + " is public", Modifier.isPublic(method.getModifiers()));
            List<String> types = new ArrayList<>();
            for (Class<?> type : method.getParameterTypes()) {
                types.add(type.getName());
            }
            found.add(method.getReturnType().getName() + " " + method.getName() + "(" + String.join(",", types) + ")");
        }
        Due.isTrue("the face: " + found, found.equals(new TreeSet<>(Arrays.asList(FACE.split("\n")))));
        Due.isTrue("public and final", HighWater.class.getModifiers() == (Modifier.PUBLIC | Modifier.FINAL));
        Constructor<?>[] constructors = HighWater.class.getDeclaredConstructors();
        Due.is("constructors", constructors.length, 1);
        Due.is("its parameters", constructors[0].getParameterCount(), 0);
        Due.isTrue("it is public", Modifier.isPublic(constructors[0].getModifiers()));
    }

    private static void constants() {
        Due.is("NONE", HighWater.NONE, -1);
        Due.is("BAD", HighWater.BAD, -2);
        Due.is("STATE", HighWater.STATE, -3);
        Due.is("FULL", HighWater.FULL, -4);
        Due.is("NO", HighWater.NO, -4611686018427387904L);
        Set<String> found = new HashSet<>();
        for (Field field : HighWater.class.getDeclaredFields()) {
            if (!Modifier.isPrivate(field.getModifiers())) {
                found.add(field.getName());
            }
        }
        Due.isTrue("no other constants: " + found, found.equals(Set.of("NONE", "BAD", "STATE", "FULL", "NO")));
    }

    private static void classes() {
        List<Class<?>> all = new ArrayList<>(List.of(HighWater.class.getDeclaredClasses()));
        Set<String> open = new HashSet<>();
        for (Method method : HighWater.class.getMethods()) {
            open.add(method.getName());
        }
        all.add(HighWater.class);
        Due.isTrue("some twelve classes", all.size() <= 12);
        for (Class<?> one : all) {
            Due.isTrue(one + " is static", one == HighWater.class || Modifier.isStatic(one.getModifiers()));
            Due.is(one + " has none inside", one == HighWater.class ? 0 : one.getDeclaredClasses().length, 0);
            int fields = 0;
            for (Field field : one.getDeclaredFields()) {
                boolean isStatic = Modifier.isStatic(field.getModifiers());
                fields += isStatic ? 0 : 1;
                Due.isTrue(field + " is no static state", !isStatic || Modifier.isFinal(field.getModifiers()));
            }
            Due.isTrue(one + " has few fields", fields <= 20);
            for (Method method : one.getDeclaredMethods()) {
                Due.isTrue(method + " has few parameters", method.getParameterCount() <= 7);
                boolean isOpen = one == HighWater.class && Modifier.isPublic(method.getModifiers());
                Due.isTrue(method + " bears a name of its own", isOpen || !open.contains(method.getName()));
            }
        }
    }

    /** The source without comments and texts. */
    private static String bare(String source) {
        String bare = source.replaceAll("(?s)/\\*.*?\\*/", " ").replaceAll("//[^\n]*", " ");
        return bare.replaceAll("\"[^\"\n]*\"", "\"\"").replaceAll("'(\\\\.|[^'\n])'", "''");
    }

    private static void source(String source) {
        Due.isTrue("signs 1 to 127", source.chars().allMatch(c -> c > 0 && c < 128));
        String bare = bare(source);
        String words = "throw|throws|try|catch|synchronized|assert|package|native|strictfp|volatile|transient|var|record"
                + "|float|Object|Override|Random|Thread|equals|hashCode|toString|System\\.(?!arraycopy)\\w+|\\w+Exact";
        none(bare, "\\b(" + words + ")\\b");
        none(bare, "->|::|@");
        none(bare, "\"\"\\s*\\+|\\+\\s*\"\"");
        none(bare, "static\\s*\\{");
        Matcher imports = Pattern.compile("import ([^;]*);").matcher(bare);
        while (imports.find()) {
            Due.isTrue(imports.group(1), imports.group(1).equals("java.util.Arrays"));
        }
        String used = bare.replace("java.util.", "");
        Matcher library = Pattern.compile("\\b(Arrays|System|Math|Integer|Long)\\.\\w+").matcher(used);
        while (library.find()) {
            Due.isTrue(library.group(), Arrays.asList(LIBRARY).contains(library.group()));
        }
    }

    private static void none(String bare, String pattern) {
        Matcher found = Pattern.compile(pattern).matcher(bare);
        Due.isTrue(pattern, !found.find());
    }

    private static void methodLengths(String source) {
        String[] lines = source.split("\n");
        int from = 0;
        for (int k = 0; k < lines.length; k++) {
            if (lines[k].matches("(    |        )[\\w\\[\\]]+( [\\w\\[\\]]+)*\\(.*\\) \\{")) {
                from = k;
            }
            if (lines[k].matches("(    |        )\\}")) {
                Due.isTrue("short: " + lines[from].trim(), k - from < 60);
                from = k;
            }
        }
    }
}
