import java.lang.reflect.Method;
import java.lang.reflect.Modifier;
import java.nio.file.Files;
import java.nio.file.Path;
import java.util.Set;
import java.util.TreeSet;
import java.util.regex.Matcher;
import java.util.regex.Pattern;

/** Holds README.md against the class and the document: its example, the public face, what refused calls answer. */
public final class ReadmeTests {
    private static final Pattern EXAMPLE = Pattern.compile("(?m)^x\\.(\\w+)\\((.*?)\\);\\s*// (-?\\d+): (.*)$");
    private static final Pattern ROW = Pattern.compile("(?m)^\\| `(\\w+)(\\(.*?\\))` \\((\\d+)\\) \\|(.*)\\|(.*)\\|$");
    private static final Pattern PROMISE =
        Pattern.compile("(?s)## Promise (\\d+): [^\n]*\n\n`(?:int )?(\\w+)(\\([^`]*\\))`:(.*?)(?=\n## )");
    private static final Pattern CODE = Pattern.compile("(?<![\\w-])-[2345](?!\\w)");

    private static int wrong = 0;

    private static void must(boolean holds, String what) {
        if (!holds) {
            wrong++;
            System.out.println("README.md: " + what);
        }
    }

    public static void main(String[] args) throws Exception {
        String readme = Files.readString(Path.of("README.md"));
        String doc = Files.readString(Path.of("../shared/DOC.md"));
        tryExample(readme);
        compareRows(readme, doc);
        compareFace(readme);
        System.out.println(wrong == 0 ? "README.md says what is so" : wrong + " things are not so");
        if (wrong != 0) {
            System.exit(1);
        }
    }

    private static void tryExample(String readme) throws Exception {
        WordLearner x = new WordLearner();
        int lines = 0;
        for (Matcher line = EXAMPLE.matcher(readme); line.find(); lines++) {
            String[] texts = line.group(2).isEmpty() ? new String[0] : line.group(2).split(", ");
            Object[] numbers = new Object[texts.length];
            StringBuilder bytes = new StringBuilder();
            for (int i = 0; i < texts.length; i++) {
                int number = Integer.decode(texts[i]);
                numbers[i] = number;
                for (int shift = 24; shift >= 0; shift -= 8) {
                    bytes.append((char) ((number >> shift) & 255));
                }
            }
            int answer = (int) methodOf(line.group(1), texts.length).invoke(x, numbers);
            must(answer == Integer.parseInt(line.group(3)), line.group() + " answers " + answer);
            String told = line.group(4);
            if (line.group(1).equals("feed")) {
                must(bytes.toString().startsWith(told.substring(1, told.length() - 1)), line.group() + " feeds " + bytes);
            }
        }
        must(lines == 15, "an example of " + lines + " calls");
    }

    /** Each promise has its row, with the document's parameters and all codes that its promise names. */
    private static void compareRows(String readme, String doc) {
        int promises = 0;
        for (Matcher promise = PROMISE.matcher(doc); promise.find(); promises++) {
            Matcher row = rowOf(readme, promise.group(2));
            if (row == null) {
                must(false, "no row of " + promise.group(2));
                continue;
            }
            must(row.group(2).equals(promise.group(3)), "other parameters of " + row.group(1));
            must(row.group(3).equals(promise.group(1)), "another promise of " + row.group(1));
            Set<String> due = codesOf(promise.group(4).replace("Likewise of TEST", "-2 of TEST"));
            must(codesOf(row.group(5)).equals(due), row.group(1) + " is refused by " + due);
            boolean faulty = promise.group(4).contains("; a FAULT");
            must(row.group(5).contains("-31 to -33") == faulty, "a FAULT of " + row.group(1));
        }
        must(promises == 33, promises + " promises");
    }

    private static void compareFace(String readme) {
        for (Method method : WordLearner.class.getDeclaredMethods()) {
            Matcher row = rowOf(readme, method.getName());
            if (Modifier.isPublic(method.getModifiers())) {
                must(row != null && countOf(row.group(2)) == method.getParameterCount(), "no row of " + method);
            }
        }
        must(readme.contains("`public static final int NONE = " + WordLearner.NONE + "`"), "no NONE");
        for (int code : new int[] {-2, -3, -4, -5, -31, -32, -33}) {
            must(readme.contains("\n| " + code + " | "), "no row of " + code);
        }
    }

    private static Matcher rowOf(String readme, String name) {
        for (Matcher row = ROW.matcher(readme); row.find();) {
            if (row.group(1).equals(name)) {
                return row;
            }
        }
        return null;
    }

    private static int countOf(String parameters) {
        return parameters.equals("()") ? 0 : parameters.split(",").length;
    }

    private static Set<String> codesOf(String text) {
        Set<String> codes = new TreeSet<>();
        for (Matcher code = CODE.matcher(text); code.find();) {
            codes.add(code.group());
        }
        return codes;
    }

    private static Method methodOf(String name, int parameters) throws NoSuchMethodException {
        Class<?>[] ints = new Class<?>[parameters];
        java.util.Arrays.fill(ints, int.class);
        return WordLearner.class.getMethod(name, ints);
    }
}
