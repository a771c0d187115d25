import java.lang.reflect.Constructor;
import java.lang.reflect.Field;
import java.lang.reflect.Method;
import java.lang.reflect.Modifier;
import java.nio.file.Files;
import java.nio.file.Path;
import java.util.ArrayList;
import java.util.Arrays;
import java.util.List;
import java.util.Set;
import java.util.TreeSet;
import java.util.regex.Matcher;
import java.util.regex.Pattern;
import java.util.stream.Collectors;

/** The class has the document's face and no more, and keeps to those rules of LANGUAGE.md that a search can see. */
public final class FaceTest {
    private static final String[] FACE = {
        "int push(int,int,int,int)", "int cut(int,int,int)", "int join(int,int,int,int,int)",
        "int turn(int,int,int,int)", "int version(int,int)", "int about(int,int)", "int common(int,int)",
        "int versions(boolean)", "int seal(int,int,boolean)", "int put(int,int)", "int take(int)",
        "int row(int,int)", "int at(int,int)", "long weight(int,int)", "int bit(int,int,int)",
        "int ones(int,int,int)", "int kth(int,int,int,int)", "int rank(int,int,int,int)",
        "int between(int,int,int,int,int)", "int next(int,int,int,int)", "int prior(int,int,int,int)",
        "int median(int,int,int)", "int half(int,int,int)", "int often(int,int,int,int)",
        "int distinct(int,int,int)", "long sum(int,int,int,int)", "int differ(int,int,int,int,int)",
        "int first(int,int)", "int step(int)", "int found(int)"};
    /** The document: "Ahead of the calls .. the interface says: ----". */
    private static final String[] HEADED = {"---- versions", "push", "cut", "join", "turn", "version", "about",
        "common", "versions", "---- the shelf", "seal", "put", "take", "row", "at", "weight", "bit", "ones",
        "---- what is asked of spans", "kth", "rank", "between", "next", "prior", "median", "half", "often",
        "distinct", "sum", "differ", "first", "step", "found"};
    private static final Set<String> LIBRARY = Set.of("Math.max", "Math.min", "Arrays.fill");
    private static final int MOST_LINES = 60;
    private static final int MOST_CLASSES = 12;
    private static final int MOST_FIELDS = 20;
    private static final String[] RULED_OUT = {"throw", "throws", "try", "catch", "synchronized", "assert",
        "package", "->", "::", "System\\.(?!arraycopy)", "\\w+Exact", "equals", "hashCode", "toString"};

    public static void main(String[] args) throws Exception {
        face();
        inside();
        Path root = Path.of(args.length > 0 ? args[0] : ".");
        String text = Files.readString(root.resolve("src/main/java/RankShelf.java"));
        String code = text.replaceAll("(?s)/\\*.*?\\*/", "").replaceAll("//[^\n]*", "");
        headings(text);
        words(code);
        library(code);
        lengths(code);
        Check.end();
    }

    private static String signature(Method m) {
        return m.getReturnType() + " " + m.getName() + "("
            + Arrays.stream(m.getParameterTypes()).map(Class::toString).collect(Collectors.joining(",")) + ")";
    }

    private static void face() {
        Set<String> seen = new TreeSet<>();
        Set<String> names = new TreeSet<>();
        for (Method m : RankShelf.class.getDeclaredMethods()) {
            if (!Modifier.isPrivate(m.getModifiers())) {
                Check.due("public, of the object: " + m, m.getModifiers(), Modifier.PUBLIC);
                seen.add(signature(m));
                names.add(m.getName());
            }
        }
        Set<String> due = new TreeSet<>(Arrays.asList(FACE));
        Check.due("the face is " + seen, seen.equals(due) ? 1 : 0, 1);
        Check.due("class modifiers", RankShelf.class.getModifiers(), Modifier.PUBLIC | Modifier.FINAL);
        Constructor<?>[] made = RankShelf.class.getDeclaredConstructors();
        Check.due("constructors", made.length, 1);
        Check.due("its modifiers", made[0].getModifiers(), Modifier.PUBLIC);
        Check.due("its parameters", made[0].getParameterCount(), 0);
        privateNames(RankShelf.class, names);
        for (Class<?> c : RankShelf.class.getDeclaredClasses()) {
            privateNames(c, names);
        }
    }

    private static void privateNames(Class<?> c, Set<String> names) {
        for (Method m : c.getDeclaredMethods()) {
            boolean ofTheFace = c == RankShelf.class && Modifier.isPublic(m.getModifiers());
            Check.due("no other method bears a name of the face: " + m, !ofTheFace && names.contains(m.getName()) ? 1 : 0, 0);
            Check.due("at most seven parameters: " + m, m.getParameterCount() > 7 ? 1 : 0, 0);
        }
    }

    private static void inside() {
        for (Field f : RankShelf.class.getDeclaredFields()) {
            Check.due("private: " + f, Modifier.isPrivate(f.getModifiers()) ? 1 : 0, 1);
            boolean changing = Modifier.isStatic(f.getModifiers()) && !Modifier.isFinal(f.getModifiers());
            Check.due("static fields are final: " + f, changing ? 1 : 0, 0);
        }
        for (Class<?> c : RankShelf.class.getDeclaredClasses()) {
            Check.due("static: " + c, Modifier.isStatic(c.getModifiers()) ? 1 : 0, 1);
            Check.due("not public: " + c, Modifier.isPublic(c.getModifiers()) ? 1 : 0, 0);
        }
    }

    /** What the public calls are headed by, and their order; headings of private methods come behind them. */
    private static void headings(String text) {
        List<String> seen = new ArrayList<>();
        Matcher m = Pattern.compile("(?m)^ {4}(?:// (---- .*)|public (?:int|long) (\\w+)\\(.*)$").matcher(text);
        while (m.find() && seen.size() < HEADED.length) {
            seen.add(m.group(1) != null ? m.group(1) : m.group(2));
        }
        Check.due("the calls and their headings are " + seen, seen.equals(Arrays.asList(HEADED)) ? 1 : 0, 1);
    }

    private static void words(String code) {
        for (String word : RULED_OUT) {
            String pattern = Character.isLetter(word.charAt(0)) ? "\\b" + word : word;
            Matcher m = Pattern.compile(word.matches("\\w+") ? pattern + "\\b" : pattern).matcher(code);
            Check.due("ruled out: " + word, m.find() ? 1 : 0, 0);
        }
    }

    private static void library(String code) {
        Matcher imports = Pattern.compile("import\\s+([\\w.]+)").matcher(code);
        while (imports.find()) {
            Check.due("imports " + imports.group(1), imports.group(1).equals("java.util.Arrays") ? 1 : 0, 1);
        }
        Matcher used = Pattern.compile("\\b([A-Z][a-z]\\w*\\.\\w+)\\(").matcher(code);
        while (used.find()) {
            Check.due("uses " + used.group(1), LIBRARY.contains(used.group(1)) ? 1 : 0, 1);
        }
    }

    /** Rule 11: methods of some sixty lines, some twelve classes, some twenty fields of each. */
    private static void lengths(String code) {
        Matcher m = Pattern.compile("(?ms)^( {4}| {8})(?:public|private) [^;={]*\\) \\{$(.*?)^\\1\\}$").matcher(code);
        int methods = 0;
        while (m.find()) {
            methods++;
            Check.due("lines of a method are few: " + m.group(), m.group().lines().count() > MOST_LINES ? 1 : 0, 0);
        }
        Check.due("methods of the face that were looked at", Math.min(methods, FACE.length), FACE.length);
        Class<?>[] inside = RankShelf.class.getDeclaredClasses();
        Check.due("classes are few", inside.length + 1 > MOST_CLASSES ? 1 : 0, 0);
        fields(RankShelf.class);
        for (Class<?> c : inside) {
            fields(c);
        }
    }

    private static void fields(Class<?> c) {
        long count = Arrays.stream(c.getDeclaredFields()).filter(f -> !Modifier.isStatic(f.getModifiers())).count();
        Check.due("fields are few: " + c, count > MOST_FIELDS ? 1 : 0, 0);
    }
}
