import java.io.IOException;
import java.lang.reflect.Constructor;
import java.lang.reflect.Field;
import java.lang.reflect.Method;
import java.lang.reflect.Modifier;
import java.nio.file.Files;
import java.nio.file.Path;
import java.util.Random;
import java.util.Set;
import java.util.TreeSet;
import java.util.regex.MatchResult;
import java.util.regex.Pattern;

/** The face of the class, the language's rules that a text search can see, odd arguments. */
public final class FaceTest {
    private static final String[] METHODS = {
        "int moment(int, int)", "int more(int)", "int less()", "int adds(int, int)",
        "int moves(int)", "int stretches(int)", "int weighs(int)", "int of(int)",
        "long determinant(int, int)", "long polynomial(int, int, int)", "long norm(int, int)",
        "long rule(int, int, int)", "int verdict(int)", "long value(int, int, int, int)",
        "int under(int, int, int)", "int zero(int, int, int)", "long weight(int, int, int)",
        "int exact(int)", "long fraction(int, int, int, int)", "long step(int, int)",
        "int type(int)", "int clear()", "int reads()", "int back()", "int told(int)",
        "long digest()"};
    /** What LANGUAGE.md leaves out, as words or signs of the source without its comments. */
    private static final String[] FORBIDDEN = {
        "\\bthrow\\b", "\\btry\\b", "\\bcatch\\b", "\\bsynchronized\\b", "\\bassert\\b",
        "\\bimport\\b", "\\bpackage\\b", "->", "::", "Exact\\b", "\\bSystem\\.(?!arraycopy)",
        "\\bprotected\\b", "\\bhashCode\\b", "\\btoString\\b", "\\bdouble\\b", "\\bfloat\\b",
        "static\\s*\\{", "\\[\\]\\s*\\[\\]\\s*\\[\\]", "\"\\s*\\+", "\\+\\s*\""};
    /** All that the class takes of the library. */
    private static final Set<String> QUALIFIERS = Set.of("Integer.bitCount", "Math.abs");
    private static final Pattern QUALIFIED = Pattern.compile("\\b[A-Z]\\w*\\.\\w+");
    /** From a method's or constructor's head to the brace that stands under its first sign. */
    private static final Pattern METHOD = Pattern.compile("(?ms)^( {4}| {8})"
            + "(?!(?:if|for|while|switch|return)\\b)\\w[\\w\\[\\] ]*"
            + "\\([^;{}]*\\) \\{\n.*?^\\1\\}$");
    private static int wrong;

    public static void main(String[] args) throws IOException {
        face();
        source();
        sizes();
        oddArguments();
        System.out.println(wrong + " faults of the face or the source");
        if (wrong != 0) {
            System.exit(1);
        }
    }

    private static void due(String what, Object got, Object want) {
        if (!got.equals(want)) {
            wrong++;
            System.out.println(what + ": " + got + ", due is " + want);
        }
    }

    private static String describe(Method method) {
        StringBuilder text = new StringBuilder();
        text.append(method.getReturnType().getSimpleName()).append(' ').append(method.getName());
        text.append('(');
        for (int i = 0; i < method.getParameterCount(); i++) {
            text.append(i == 0 ? "" : ", ").append(method.getParameterTypes()[i].getSimpleName());
        }
        return text.append(')').toString();
    }

    private static void face() {
        Class<SquaredRows> c = SquaredRows.class;
        due("public final", Modifier.toString(c.getModifiers()), "public final");
        Set<String> names = new TreeSet<>();
        Set<String> open = new TreeSet<>();
        for (Method method : c.getDeclaredMethods()) {
            if (!Modifier.isPrivate(method.getModifiers())) {
                open.add(describe(method));
                names.add(method.getName());
            }
        }
        due("methods", open, new TreeSet<>(Set.of(METHODS)));
        checkPrivateNames(c, names);
        Constructor<?>[] constructors = c.getDeclaredConstructors();
        due("constructors", constructors.length, 1);
        due("constructor", constructors[0].toString(), "public SquaredRows()");
        Set<String> constants = new TreeSet<>();
        for (Field field : c.getDeclaredFields()) {
            if (!Modifier.isPrivate(field.getModifiers())) {
                constants.add(Modifier.toString(field.getModifiers()) + " " + field.getName());
            }
        }
        due("constants", constants, new TreeSet<>(Set.of("public static final BAD",
                "public static final NONE", "public static final NO",
                "public static final FULL")));
        due("NONE", SquaredRows.NONE, -1000000);
        due("BAD", SquaredRows.BAD, -1000001);
        due("NO", SquaredRows.NO, -1000002);
        due("FULL", SquaredRows.FULL, -1000003);
    }

    private static void checkPrivateNames(Class<?> c, Set<String> names) {
        for (Method method : c.getDeclaredMethods()) {
            if (Modifier.isPrivate(method.getModifiers())) {
                due("private " + method.getName(), names.contains(method.getName()), false);
            }
        }
        int fields = 0;
        for (Field field : c.getDeclaredFields()) {
            fields += Modifier.isStatic(field.getModifiers()) ? 0 : 1;
            due("static fields are final: " + field.getName(),
                    Modifier.isStatic(field.getModifiers())
                            && !Modifier.isFinal(field.getModifiers()), false);
        }
        due(c + " has few fields", fields <= 20, true);
        for (Class<?> inside : c.getDeclaredClasses()) {
            due(inside + " is static", Modifier.isStatic(inside.getModifiers()), true);
            checkPrivateNames(inside, names);
        }
    }

    private static void source() throws IOException {
        String text = Files.readString(Path.of("src/main/java/SquaredRows.java"));
        due("signs", text.chars().allMatch(sign -> sign == '\n' || (sign >= 32 && sign < 127)),
                true);
        String code = text.replaceAll("(?s)/\\*.*?\\*/", "").replaceAll("//[^\n]*", "");
        for (String word : FORBIDDEN) {
            due("the source has " + word, Pattern.compile(word).matcher(code).find(), false);
        }
    }

    /** Rules 4 and 11: the library's functions, parameters, lines of methods, classes. */
    private static void sizes() throws IOException {
        String text = Files.readString(Path.of("src/main/java/SquaredRows.java"));
        String code = text.replaceAll("(?s)/\\*.*?\\*/", "").replaceAll("//[^\n]*", "");
        QUALIFIED.matcher(code).results().forEach(found ->
                due("of the library: " + found.group(), QUALIFIERS.contains(found.group()), true));
        int methods = 0;
        for (MatchResult method : METHOD.matcher(code).results().toList()) {
            methods++;
            due("short: " + method.group().lines().findFirst().get().trim(),
                    method.group().lines().count() <= 60, true);
        }
        due("methods in the source", methods, countMethods(SquaredRows.class));
        due("few classes", countClasses(SquaredRows.class) <= 12, true);
    }

    private static int countClasses(Class<?> c) {
        int number = 1;
        for (Class<?> inside : c.getDeclaredClasses()) {
            number += countClasses(inside);
        }
        return number;
    }

    /** Methods and constructors, those of the classes inside too. */
    private static int countMethods(Class<?> c) {
        int number = c.getDeclaredConstructors().length;
        for (Method method : c.getDeclaredMethods()) {
            due("parameters of " + method, method.getParameterCount() <= 7, true);
            number++;
        }
        for (Class<?> inside : c.getDeclaredClasses()) {
            number += countMethods(inside);
        }
        return number;
    }

    /** No call may throw, whatever its arguments and the state are. */
    private static void oddArguments() {
        int[] odd = {Integer.MIN_VALUE, Integer.MIN_VALUE + 1, -1000, -100, -10, -1, 0, 1, 2, 3, 4,
            5, 6, 7, 8, 9, 10, 99, 100, 500, 501, 1 << 18, 1 << 19, Integer.MAX_VALUE};
        Random random = new Random(3);
        for (int run = 0; run < 300; run++) {
            SquaredRows x = new SquaredRows();
            for (int call = 0; call < 512; call++) {
                int a = odd[random.nextInt(odd.length)];
                int b = odd[random.nextInt(odd.length)];
                int c = odd[random.nextInt(odd.length)];
                int d = odd[random.nextInt(odd.length)];
                oneCall(x, random.nextInt(26), a, b, c, d);
            }
            due("K is 1 .. 7", x.told(4) >= 1 && x.told(4) <= 7, true);
        }
    }

    private static long oneCall(SquaredRows x, int which, int a, int b, int c, int d) {
        switch (which) {
            case 0: return x.moment(a, b);
            case 1: return x.more(a);
            case 2: return x.less();
            case 3: return x.adds(a, b);
            case 4: return x.moves(a);
            case 5: return x.stretches(a);
            case 6: return x.weighs(a);
            case 7: return x.of(a);
            case 8: return x.determinant(a, b);
            case 9: return x.polynomial(a, b, c);
            case 10: return x.norm(a, b);
            case 11: return x.rule(a, b, c);
            case 12: return x.verdict(a);
            case 13: return x.value(a, b, c, d);
            case 14: return x.under(a, b, c);
            case 15: return x.zero(a, b, c);
            case 16: return x.weight(a, b, c);
            case 17: return x.exact(a);
            case 18: return x.fraction(a, b, c, d);
            case 19: return x.step(a, b);
            case 20: return x.type(a);
            case 21: return x.clear();
            case 22: return x.reads();
            case 23: return x.back();
            case 24: return x.told(a);
            default: return x.digest();
        }
    }
}
