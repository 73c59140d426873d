import java.io.BufferedReader;
import java.io.InputStreamReader;
import java.lang.reflect.InvocationTargetException;
import java.lang.reflect.Method;
import java.lang.reflect.Modifier;
import java.nio.charset.StandardCharsets;
import java.util.Arrays;
import java.util.List;
import java.util.Set;
import java.util.TreeSet;
import java.util.regex.Matcher;
import java.util.regex.Pattern;

/**
 * What README.md shows agrees with the class: each line of its examples is called, and its table and its
 * list of tests are whole. The README comes as the input and the tests' paths as arguments, because no
 * test here opens a file.
 */
public final class ReadmeTest {
    private static final String MADE = "BestPairs x = new BestPairs();";
    private static final Pattern CALL =
        Pattern.compile("x\\.(\\w+)\\(([-\\d, ]*)\\); +// (NONE|FULL|true|false|-?\\d+|no answer)(?:[:,] .*)?");
    private static final Pattern TABLE_ROW = Pattern.compile("\\| `(\\w+)\\(([\\w, ]*)\\)` \\|.*");
    private static final Pattern TEST = Pattern.compile("`(src/test/java/\\w+\\.java)`");

    private static int wrong = 0;
    private static final Set<String> shown = new TreeSet<>();

    private static void due(String what, Object got, Object want) {
        if (!got.equals(want)) {
            wrong++;
            System.out.println("README: " + what + " answered " + got + ", due is " + want);
        }
    }

    public static void main(String[] args) throws ReflectiveOperationException {
        List<String> readme = new BufferedReader(new InputStreamReader(System.in, StandardCharsets.UTF_8))
            .lines().toList();
        runExamples(readme);
        due("the calls of the examples", shown, face());
        due("the calls of the table", tableOf(readme), face());
        due("the tests of the list", testsOf(readme), new TreeSet<>(Arrays.asList(args)));
        System.out.println(wrong == 0 ? "all answers are as due" : wrong + " answers are not as due");
        if (wrong != 0) {
            System.exit(1);
        }
    }

    /** Each method as name/number of parameters. */
    private static Set<String> face() {
        Set<String> names = new TreeSet<>();
        for (Method method : BestPairs.class.getDeclaredMethods()) {
            if (Modifier.isPublic(method.getModifiers())) {
                names.add(method.getName() + "/" + method.getParameterCount());
            }
        }
        return names;
    }

    private static void runExamples(List<String> readme) throws ReflectiveOperationException {
        boolean inside = false;
        BestPairs x = null;
        for (String line : readme) {
            if (line.startsWith("```")) {
                inside = line.equals("```java");
                x = null;
            } else if (inside && line.equals(MADE)) {
                x = new BestPairs();
            } else if (inside) {
                runLine(line, x);
            }
        }
    }

    /** A line that is not understood is a fault: it would stand in the README unchecked. */
    private static void runLine(String line, BestPairs x) throws ReflectiveOperationException {
        Matcher call = CALL.matcher(line);
        if (x == null || !call.matches()) {
            wrong++;
            System.out.println("README: no call that can be checked: " + line);
            return;
        }
        int[] given = numbersOf(call.group(2));
        shown.add(call.group(1) + "/" + given.length);
        due(line, answerOf(x, call.group(1), given), spelled(call.group(3)));
    }

    private static int[] numbersOf(String list) {
        return list.isBlank() ? new int[0] : Arrays.stream(list.split(", ")).mapToInt(Integer::parseInt).toArray();
    }

    private static String answerOf(BestPairs x, String name, int[] given) throws ReflectiveOperationException {
        Class<?>[] types = new Class<?>[given.length];
        Arrays.fill(types, int.class);
        try {
            Method method = BestPairs.class.getMethod(name, types);
            Object answer = method.invoke(x, Arrays.stream(given).boxed().toArray());
            return answer == null ? "no answer" : answer.toString();
        } catch (NoSuchMethodException e) {
            return "no such call";
        } catch (InvocationTargetException e) {
            return e.getCause().toString();
        }
    }

    private static String spelled(String answer) {
        return switch (answer) {
            case "NONE" -> "-1";
            case "FULL" -> "-2";
            default -> answer;
        };
    }

    private static Set<String> tableOf(List<String> readme) {
        Set<String> calls = new TreeSet<>();
        for (String line : readme) {
            Matcher row = TABLE_ROW.matcher(line);
            if (row.matches()) {
                String names = row.group(2);
                calls.add(row.group(1) + "/" + (names.isEmpty() ? 0 : names.split(", ").length));
            }
        }
        return calls;
    }

    private static Set<String> testsOf(List<String> readme) {
        Set<String> tests = new TreeSet<>();
        for (String line : readme) {
            Matcher test = TEST.matcher(line);
            while (test.find()) {
                tests.add(test.group(1));
            }
        }
        return tests;
    }
}
