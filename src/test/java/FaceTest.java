import java.io.IOException;
import java.lang.reflect.Constructor;
import java.lang.reflect.Field;
import java.lang.reflect.Method;
import java.lang.reflect.Modifier;
import java.nio.file.Files;
import java.nio.file.Path;
import java.util.Arrays;
import java.util.HashSet;
import java.util.List;
import java.util.Set;
import java.util.TreeSet;
import java.util.regex.Matcher;
import java.util.regex.Pattern;

/** The public face, the rules of the language that a test can see, and calls of any numbers in any order. */
public final class FaceTest {
    static final List<String> FACE = List.of("write(int)", "wipe()", "fault()", "lay()", "yard(int, int)",
        "bearer(int, int)", "stands()", "share(int, int)", "turn(int, int)", "bear(int, int, int)", "leave(int)",
        "undo()", "best(int, int)", "safe()", "needed()", "far(int)", "son(int, int)", "cairn(int, int, int)",
        "heir(int)", "rests(int, int, int)", "print(int, int)", "forget()", "failed()", "odds(int, int, int)",
        "rain(int, int)", "keep()", "back()", "count(int)");
    static int wrong = 0;

    static void must(boolean so, String what) {
        if (!so) {
            wrong++;
            System.out.println("not so: " + what);
        }
    }

    static String told(Method m) {
        StringBuilder s = new StringBuilder(m.getName()).append('(');
        for (Class<?> p : m.getParameterTypes()) s.append(s.charAt(s.length() - 1) == '(' ? "" : ", ").append(p);
        return s.append(')').toString();
    }

    static void face() {
        Class<?> c = ShoulderHeirs.class;
        must(Modifier.isPublic(c.getModifiers()) && Modifier.isFinal(c.getModifiers()), "public and final");
        Set<String> names = new HashSet<>();
        Set<String> open = new TreeSet<>();
        for (Method m : c.getDeclaredMethods()) {
            if (Modifier.isPublic(m.getModifiers())) {
                open.add(told(m));
                names.add(m.getName());
                must(m.getReturnType() == int.class && !Modifier.isStatic(m.getModifiers()), told(m) + " answers an int");
            } else {
                must(Modifier.isPrivate(m.getModifiers()), told(m) + " is private");
            }
        }
        must(open.equals(new TreeSet<>(FACE)), "the public methods: " + open);
        Constructor<?>[] made = c.getDeclaredConstructors();
        must(made.length == 1 && Modifier.isPublic(made[0].getModifiers()) && made[0].getParameterCount() == 0,
            "one public constructor");
        for (Field f : c.getDeclaredFields()) {
            boolean constant = Set.of("BAD", "NO", "FULL", "NONE").contains(f.getName());
            must(constant == Modifier.isPublic(f.getModifiers()), f.getName() + " is public only as a constant");
            must(constant || Modifier.isPrivate(f.getModifiers()), f.getName() + " is private");
            must(!Modifier.isStatic(f.getModifiers()) || Modifier.isFinal(f.getModifiers()), f.getName() + " is final");
        }
        for (Class<?> inside : c.getDeclaredClasses()) {
            must(Modifier.isStatic(inside.getModifiers()), inside + " is static");
            must(!Modifier.isPublic(inside.getModifiers()), inside + " is not public");
            must(inside.getDeclaredFields().length <= 20, inside + " has few fields");
            for (Method m : inside.getDeclaredMethods()) {
                must(!names.contains(m.getName()), inside + ": " + m.getName() + " bears a public name");
                must(m.getParameterCount() <= 7, told(m) + " takes at most seven");
            }
        }
        must(c.getDeclaredClasses().length < 12, "few classes");
    }

    static void source() throws IOException {
        String text = Files.readString(Path.of("src/main/java/ShoulderHeirs.java"));
        must(text.chars().allMatch(s -> s == '\n' || s >= 32 && s < 127), "plain signs alone");
        String code = text.replaceAll("(?s)/\\*.*?\\*/", " ").replaceAll("//[^\n]*", " ")
            .replaceAll("\"[^\"\n]*\"", "\"\"");
        for (String word : List.of("throw", "throws", "try", "catch", "finally", "synchronized", "assert", "import",
            "package", "native", "volatile", "protected", "var", "Object", "Thread", "double", "float")) {
            must(!Pattern.compile("\\b" + word + "\\b").matcher(code).find(), "no word " + word);
        }
        must(!code.contains("->") && !code.contains("::") && !code.contains("@"), "no lambda, reference, mark");
        Set<String> library = new TreeSet<>();
        Matcher used = Pattern.compile("\\b(System|Math|Integer|Long|Arrays|String|StringBuilder)\\.\\w+").matcher(code);
        while (used.find()) library.add(used.group());
        must(Set.of("System.arraycopy", "Math.min", "Math.max", "Integer.bitCount").containsAll(library),
            "the library: " + library);
    }

    /** No call may throw, whatever the numbers are: every method with every mix of edges, in many states. */
    static void never() throws ReflectiveOperationException {
        int[] edges = {Integer.MIN_VALUE, -10, -2, -1, 0, 1, 2, 5, 6, 9, 29, 119, 120, 9999, Integer.MAX_VALUE};
        Method[] all = Arrays.stream(ShoulderHeirs.class.getDeclaredMethods())
            .filter(m -> Modifier.isPublic(m.getModifiers())).toArray(Method[]::new);
        Arrays.sort(all, (a, b) -> a.getName().compareTo(b.getName()));
        for (String text : List.of("", "s1,0;b1,2;",
            "s30,5;s30,5;s30,5;s30,5;r3;m3;b60,3;b60,3;b60,3;b1,1;b1,2;b9,0;",
            "s20,0;s20,1;s20,2;s20,3;s20,4;s20,5;b60,0;b60,0;b60,0;b60,0;b60,0;b60,0;t5,0,99;t5,60,99;t0,0,99;")) {
            for (Method m : all) {
                ShoulderHeirs x = new ShoulderHeirs();
                for (char c : text.toCharArray()) x.write(c);
                x.lay();
                int many = (int) Math.pow(edges.length, m.getParameterCount());
                for (int mix = 0; mix < many; mix++) {
                    Object[] numbers = new Object[m.getParameterCount()];
                    for (int p = 0, rest = mix; p < numbers.length; p++, rest /= edges.length) {
                        numbers[p] = edges[rest % edges.length];
                    }
                    try {
                        m.invoke(x, numbers);
                    } catch (java.lang.reflect.InvocationTargetException e) {
                        must(false, told(m) + Arrays.toString(numbers) + " threw " + e.getCause());
                    }
                }
            }
        }
    }

    public static void main(String[] args) throws Exception {
        face();
        source();
        never();
        System.out.println("FaceTest: " + wrong + " wrong");
        if (wrong > 0) System.exit(1);
    }
}
