import java.io.IOException;
import java.lang.reflect.Method;
import java.lang.reflect.Modifier;
import java.nio.charset.StandardCharsets;
import java.nio.file.Files;
import java.nio.file.Path;
import java.util.Arrays;
import java.util.regex.Matcher;
import java.util.regex.Pattern;

/** What README.md says of the class is so: its example, its methods, its refusals. */
public final class ReadmeTest {
    private static final int METHODS = 26;
    private static final String[] CONSTANTS = {"UNKNOWN", "OUTSIDE", "STATE", "FULL", "NO"};
    private static final Pattern SPOKEN = Pattern.compile("\"(.*)\"\\.toCharArray\\(\\)");
    private static final Pattern ANSWERED = Pattern.compile("see\\.(\\w+)\\((.*)\\); +// (-?\\d+)\\b.*");
    private static final Pattern ROW = Pattern.compile("(?m)^\\| `(\\w+)\\((.*)\\)` \\|.*\\| ([^|]*)\\|$");
    private static final Pattern DECLARED = Pattern.compile("    public (?:int|long) (\\w+)\\((.*)\\) \\{");

    private static final Due due = new Due();

    private ReadmeTest() {
    }

    public static void main(String[] args) throws IOException, ReflectiveOperationException {
        String readme = Files.readString(Path.of("README.md"), StandardCharsets.US_ASCII);
        String source = Files.readString(Path.of("src/main/java/HassockSee.java"), StandardCharsets.US_ASCII);
        example(readme);
        methods(readme, source);
        refusals(readme);
        constants(readme);
        due.holds("it tells how tests are run", readme.contains("    sh .ci/run\n"));
        due.end("ReadmeTest");
    }

    private static void example(String readme) throws ReflectiveOperationException {
        HassockSee see = new HassockSee();
        int answers = 0;
        String code = readme.split("```java\n")[1].split("```")[0];
        for (String line : code.split("\n")) {
            Matcher spoken = SPOKEN.matcher(line);
            Matcher answered = ANSWERED.matcher(line);
            if (spoken.find()) {
                due.says(see, spoken.group(1));
            } else if (answered.matches()) {
                due.is(line, call(see, answered.group(1), numbers(answered.group(2))),
                        Long.parseLong(answered.group(3)));
                answers++;
            }
        }
        due.holds("the example has answers: " + answers, answers >= 10);
    }

    private static void methods(String readme, String source) {
        Matcher declared = DECLARED.matcher(source);
        int found = 0;
        while (declared.find()) {
            String call = declared.group(1) + "(" + declared.group(2).replace("int ", "") + ")";
            due.holds("a row for " + call, readme.contains("\n| `" + call + "` |"));
            found++;
        }
        due.is("methods of the class", found, METHODS);
        due.is("methods in the table", ROW.matcher(readme).results().count(), METHODS);
    }

    /** The first refusal of a row is what the wildest arguments are answered with. */
    private static void refusals(String readme) throws ReflectiveOperationException {
        Matcher row = ROW.matcher(readme);
        while (row.find()) {
            String first = row.group(3).split(", ")[0].trim();
            Object[] wild = new Object[row.group(2).split(", ").length];
            Arrays.fill(wild, Integer.MIN_VALUE);
            if (!row.group(2).isEmpty() && !first.isEmpty()) {
                due.is(row.group(1) + ", wild", call(new HassockSee(), row.group(1), wild), refusal(first));
            }
        }
    }

    private static long refusal(String told) throws ReflectiveOperationException {
        long sum = 0;
        for (String name : told.split(" \\+ ")) {
            sum += constant(name);
        }
        return sum;
    }

    private static void constants(String readme) throws ReflectiveOperationException {
        for (String name : CONSTANTS) {
            due.holds("a row for " + name, readme.contains("\n| `" + name + "` | " + constant(name) + " |"));
        }
        due.holds("NONE", readme.contains("`NONE`, " + HassockSee.NONE + ","));
        due.holds("GONE", readme.contains("`GONE` (-10^18)") && HassockSee.GONE == -1000000000000000000L);
    }

    private static long constant(String name) throws ReflectiveOperationException {
        return HassockSee.class.getField(name).getLong(null);
    }

    private static Object[] numbers(String list) {
        return list.isEmpty() ? new Object[0] : Arrays.stream(list.split(", ")).map(Integer::valueOf).toArray();
    }

    private static long call(HassockSee see, String name, Object[] values) throws ReflectiveOperationException {
        for (Method method : HassockSee.class.getDeclaredMethods()) {
            if (Modifier.isPublic(method.getModifiers()) && method.getName().equals(name)
                    && method.getParameterCount() == values.length) {
                return ((Number) method.invoke(see, values)).longValue();
            }
        }
        throw new NoSuchMethodException(name + " of " + values.length);
    }
}
