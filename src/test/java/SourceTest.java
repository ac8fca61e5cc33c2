import java.io.IOException;
import java.lang.reflect.Constructor;
import java.lang.reflect.Field;
import java.lang.reflect.Method;
import java.lang.reflect.Modifier;
import java.nio.file.Files;
import java.nio.file.Path;
import java.util.Arrays;
import java.util.Set;
import java.util.TreeSet;
import java.util.regex.Matcher;
import java.util.regex.Pattern;

/** The class's face, and what LANGUAGE.md rules out as far as the source's words tell it. */
final class SourceTest {
    private static final String FACE = "row:int,int,int set:int,int,long copy:int,int,int,int,int element:int,int"
            + " holds:int rule:int,int,int says:int,int debt:int,int,int,int,int,int debtOf:int,int alter:int,int,int"
            + " income:int,int ask:int,int feed:int,int wipe: life: grows:int bites:int pays:int,int weeks:int,int"
            + " pay:int judge:int run:int,int,int head:int best:int,int lose:int,int write:int quiet:int,int"
            + " offer:int,int,int,int one:int,int,int all:int holder:int,int,int hangs:int,int enough:int,int"
            + " seed:int image: back: status:int";
    private static final int MOST_LINES = 60;
    private static final int MOST_PARAMETERS = 7;
    private static final int MOST_CLASSES = 12;
    private static final int MOST_FIELDS = 20;

    private SourceTest() {
    }

    static void runAll(Checks checks) throws IOException {
        checks.begin("face");
        face(checks);
        checks.begin("language");
        classes(checks);
        words(checks);
        lengths(checks);
    }

    private static String signature(Method m) {
        StringBuilder s = new StringBuilder(m.getName()).append(':');
        for (Class<?> p : m.getParameterTypes()) {
            s.append(s.charAt(s.length() - 1) == ':' ? "" : ",").append(p.getName());
        }
        return s.toString();
    }

    private static void face(Checks checks) {
        Class<?> c = NineDebts.class;
        checks.yes("public", Modifier.isPublic(c.getModifiers()));
        checks.yes("final", Modifier.isFinal(c.getModifiers()));
        Set<String> due = new TreeSet<>(Arrays.asList(FACE.split(" ")));
        Set<String> names = new TreeSet<>();
        for (String s : due) {
            names.add(s.substring(0, s.indexOf(':')));
        }
        Set<String> got = new TreeSet<>();
        for (Method m : c.getDeclaredMethods()) {
            if (Modifier.isPrivate(m.getModifiers())) {
                checks.yes("no private method of a public one's name: " + m.getName(), !names.contains(m.getName()));
            } else {
                got.add(signature(m));
                checks.yes("public: " + m, Modifier.isPublic(m.getModifiers()) && !Modifier.isStatic(m.getModifiers()));
                boolean isLong = m.getName().equals("element");
                checks.yes("type of " + m, m.getReturnType() == (isLong ? long.class : int.class));
            }
        }
        checks.yes("the methods " + got, got.equals(due));
        for (Field f : c.getDeclaredFields()) {
            checks.yes("private: " + f, Modifier.isPrivate(f.getModifiers()) || f.getName().equals("NONE"));
        }
        for (Constructor<?> k : c.getDeclaredConstructors()) {
            checks.yes("constructor " + k, k.getParameterCount() == 0 && Modifier.isPublic(k.getModifiers()));
        }
    }

    private static void classes(Checks checks) {
        Class<?>[] inside = NineDebts.class.getDeclaredClasses();
        checks.yes("how many classes", inside.length + 1 <= MOST_CLASSES);
        oneClass(checks, NineDebts.class);
        for (Class<?> c : inside) {
            checks.yes("static: " + c, Modifier.isStatic(c.getModifiers()));
            oneClass(checks, c);
        }
    }

    private static void oneClass(Checks checks, Class<?> c) {
        int fields = 0;
        for (Field f : c.getDeclaredFields()) {
            if (Modifier.isStatic(f.getModifiers())) {
                checks.yes("final: " + f, Modifier.isFinal(f.getModifiers()));
            } else {
                fields++;
            }
        }
        checks.yes("how many fields: " + c, fields <= MOST_FIELDS);
        for (Method m : c.getDeclaredMethods()) {
            checks.yes("how many parameters: " + m, m.getParameterCount() <= MOST_PARAMETERS);
        }
    }

    /** The source without comments and texts. */
    private static String bare() throws IOException {
        String s = Files.readString(Path.of("src/main/java/NineDebts.java"));
        s = s.replaceAll("(?s)/\\*.*?\\*/", "").replaceAll("//[^\n]*", "");
        return s.replaceAll("\"[^\"\n]*\"", "\"\"").replaceAll("'[^'\n]'", "' '");
    }

    private static void words(Checks checks) throws IOException {
        String source = bare();
        String[] ruledOut = {"throw", "throws", "try", "catch", "finally", "synchronized", "assert", "package", "Exact",
            "System.out", "currentTimeMillis", "nanoTime", "Random", "Thread", "hashCode", "toString", "protected", "native",
            "volatile", "transient", "Object", "import java.util.\\*"};
        for (String word : ruledOut) {
            checks.yes("no " + word, !Pattern.compile("\\b" + word + "\\b").matcher(source).find());
        }
        checks.yes("no lambda", !source.contains("->"));
        checks.yes("no method reference", !source.contains("::"));
        checks.yes("no joining of texts by +", !source.contains("\" +") && !source.contains("+ \""));
        Matcher imports = Pattern.compile("import ([^;]*);").matcher(source);
        while (imports.find()) {
            checks.yes("import " + imports.group(1), imports.group(1).equals("java.util.Arrays"));
        }
        Matcher calls = Pattern.compile("\\b(Math|Arrays|System|Integer|Long|String)\\.(\\w+)").matcher(source);
        Set<String> listed = Set.of("Math.min", "Math.max", "Math.floorMod", "Arrays.fill", "System.arraycopy");
        while (calls.find()) {
            checks.yes("library: " + calls.group(), listed.contains(calls.group()));
        }
        for (String line : source.split("\n")) {
            boolean isMade = line.matches(" *(private )?final [\\w\\[\\]]+ \\w+ = new .*;");
            checks.yes("made with the object: " + line, isMade || !line.matches(".*\\bnew\\b.*"));
        }
        boolean isPlain = source.chars().allMatch(c -> c == '\n' || c >= 32 && c < 127);
        checks.yes("plain signs", isPlain);
    }

    private static void lengths(Checks checks) throws IOException {
        String[] lines = Files.readString(Path.of("src/main/java/NineDebts.java")).split("\n");
        int start = -1;
        String head = "";
        for (int k = 0; k < lines.length; k++) {
            checks.yes("length of line " + (k + 1), lines[k].length() <= 120);
            Matcher m = Pattern.compile("( {4}| {8})(?!.*\\bclass\\b)[^ /*].*\\).*\\{").matcher(lines[k]);
            if (start < 0 && m.matches()) {
                start = k;
                head = m.group(1);
            } else if (start >= 0 && lines[k].equals(head + "}")) {
                checks.yes("length of the method in line " + (start + 1), k - start + 1 <= MOST_LINES);
                start = -1;
            }
        }
        checks.yes("all methods end", start < 0);
    }
}
