import java.io.IOException;
import java.lang.reflect.Method;
import java.lang.reflect.Modifier;
import java.nio.file.Files;
import java.nio.file.Path;
import java.util.ArrayList;
import java.util.List;
import java.util.Map;
import java.util.TreeMap;
import java.util.TreeSet;
import java.util.Set;
import java.util.regex.Matcher;
import java.util.regex.Pattern;
import java.util.stream.Stream;

/** README.md says what the program does: its examples are run, its tables held against the class. */
public final class ReadmeTest {
    static final Pattern MAKES = Pattern.compile("ShoulderHeirs farm = new ShoulderHeirs\\(\\);");
    static final Pattern WRITES = Pattern.compile("for \\(char c : \"([^\"]*)\"\\.toCharArray\\(\\)\\) farm\\.write\\(c\\);");
    static final Pattern ASKS = Pattern.compile("farm\\.(\\w+)\\(([-0-9, ]*)\\);\\s+// (-?\\d+|BAD|NO|FULL|NONE)(?:[:,].*)?");
    static final Map<String, Method> FACE = new TreeMap<>();
    static final Map<String, Integer> BELOW = Map.of("BAD", ShoulderHeirs.BAD, "NO", ShoulderHeirs.NO,
        "FULL", ShoulderHeirs.FULL, "NONE", ShoulderHeirs.NONE);
    static int wrong = 0;
    static int asked = 0;

    static void must(boolean so, String what) {
        if (!so) {
            wrong++;
            System.out.println("README.md: " + what);
        }
    }

    /** Lines of all blocks of Java, one behind the other: the page goes on with the same object. */
    static List<String> examples(List<String> page) {
        List<String> found = new ArrayList<>();
        boolean inside = false;
        for (String line : page) {
            if (line.startsWith("```")) inside = line.equals("```java");
            else if (inside) found.add(line.strip());
        }
        return found;
    }

    static int answer(ShoulderHeirs farm, String name, String numbers) throws ReflectiveOperationException {
        String[] told = numbers.isBlank() ? new String[0] : numbers.split(", *");
        Object[] given = new Object[told.length];
        for (int k = 0; k < told.length; k++) given[k] = Integer.parseInt(told[k]);
        return (Integer) FACE.get(name).invoke(farm, given);
    }

    static void run(List<String> lines) throws ReflectiveOperationException {
        ShoulderHeirs farm = null;
        Set<String> shown = new TreeSet<>();
        for (String line : lines) {
            Matcher writes = WRITES.matcher(line);
            Matcher asks = ASKS.matcher(line);
            if (MAKES.matcher(line).matches()) {
                farm = new ShoulderHeirs();
            } else if (farm != null && writes.matches()) {
                for (char c : writes.group(1).toCharArray()) must(farm.write(c) > 0, "is not written: " + line);
            } else if (farm != null && asks.matches() && FACE.containsKey(asks.group(1))) {
                String due = asks.group(3);
                int want = BELOW.containsKey(due) ? BELOW.get(due) : Integer.parseInt(due);
                int got = answer(farm, asks.group(1), asks.group(2));
                must(got == want, line + " answered " + got);
                shown.add(asks.group(1));
                asked++;
            } else {
                must(false, "not understood: " + line);
            }
        }
        must(shown.equals(FACE.keySet()), "each call is shown once at least: " + shown);
    }

    static void calls(String text) {
        Map<String, Integer> listed = new TreeMap<>();
        Matcher row = Pattern.compile("(?m)^\\| `(\\w+)\\(([^)]*)\\)` \\|").matcher(text);
        while (row.find()) {
            int numbers = row.group(2).isEmpty() ? 0 : row.group(2).split(",").length;
            must(listed.put(row.group(1), numbers) == null, "listed twice: " + row.group(1));
        }
        Map<String, Integer> there = new TreeMap<>();
        FACE.forEach((name, method) -> there.put(name, method.getParameterCount()));
        must(listed.equals(there), "all calls: " + listed);
    }

    static void below(String text) {
        Map<String, Integer> listed = new TreeMap<>();
        Matcher row = Pattern.compile("(?m)^\\| `([A-Z]+)` \\| (-?\\d+) \\|").matcher(text);
        while (row.find()) listed.put(row.group(1), Integer.parseInt(row.group(2)));
        must(listed.equals(new TreeMap<>(BELOW)), "numbers below 0: " + listed);
    }

    static void tests(String text) throws IOException {
        Set<String> listed = new TreeSet<>();
        Matcher row = Pattern.compile("(?m)^- `(\\w+)`:").matcher(text);
        while (row.find()) listed.add(row.group(1) + ".java");
        Set<String> there = new TreeSet<>();
        try (Stream<Path> files = Files.list(Path.of("src/test/java"))) {
            files.map(f -> f.getFileName().toString()).filter(f -> f.endsWith(".java")).forEach(there::add);
        }
        must(listed.equals(there), "the tests: " + listed);
    }

    public static void main(String[] args) throws Exception {
        for (Method m : ShoulderHeirs.class.getDeclaredMethods()) {
            if (Modifier.isPublic(m.getModifiers())) FACE.put(m.getName(), m);
        }
        String text = Files.readString(Path.of("README.md"));
        run(examples(text.lines().toList()));
        calls(text);
        below(text);
        tests(text);
        System.out.println("ReadmeTest: " + asked + " answers, " + wrong + " wrong");
        if (wrong > 0) System.exit(1);
    }
}
