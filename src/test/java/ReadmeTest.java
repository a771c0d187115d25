import java.lang.reflect.Method;
import java.nio.file.Files;
import java.nio.file.Path;
import java.util.regex.Matcher;
import java.util.regex.Pattern;

/** README.md's example answers what README.md says, and README.md tells of every call and every test. */
public final class ReadmeTest {
    private static final int EXAMPLE_CALLS = 12;

    public static void main(String[] args) throws Exception {
        Path root = Path.of(args.length > 0 ? args[0] : ".");
        String text = Files.readString(root.resolve("README.md"));
        example(text);
        everyCall(text);
        everyTest(text, root);
        Check.end();
    }

    /** Each line "shelf.name(1, 2);  // 3: .." is made in its order, and 3 is due. */
    private static void example(String text) {
        Run x = new Run("README.md");
        Matcher m = Pattern.compile("(?m)^shelf\\.(\\w+)\\((.*)\\);\\s*// (-?\\d+): ").matcher(text);
        while (m.find()) {
            x.due(m.group(1) + " " + m.group(2).replace(",", ""), Long.parseLong(m.group(3)));
        }
        Check.due("README.md's example has calls", Math.min(x.callCount(), EXAMPLE_CALLS), EXAMPLE_CALLS);
    }

    private static void everyCall(String text) {
        for (Method m : RankShelf.class.getMethods()) {
            if (m.getDeclaringClass() == RankShelf.class) {
                Check.due("README.md tells of " + m.getName(), text.contains("`" + m.getName() + "(") ? 1 : 0, 1);
            }
        }
    }

    private static void everyTest(String text, Path root) throws Exception {
        try (var tests = Files.newDirectoryStream(root.resolve("src/test/java"), "*Test.java")) {
            for (Path test : tests) {
                String name = test.getFileName().toString().replace(".java", "");
                Check.due("README.md tells of " + name, text.contains("`" + name + "`") ? 1 : 0, 1);
            }
        }
    }
}
