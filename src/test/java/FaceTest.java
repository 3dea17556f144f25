import java.io.IOException;
import java.lang.reflect.Constructor;
import java.lang.reflect.Field;
import java.lang.reflect.Member;
import java.lang.reflect.Method;
import java.lang.reflect.Modifier;
import java.nio.file.Files;
import java.nio.file.Path;
import java.util.Arrays;
import java.util.Set;
import java.util.TreeSet;
import java.util.regex.Matcher;
import java.util.regex.Pattern;

/** The public face, and those rules of LANGUAGE.md that a look at the class or its text can tell. */
public final class FaceTest {
    private static final String[] FACE = {
        "int begin(int, int) throws IllegalArgumentException",
        "int cell(int, int) throws IllegalStateException, IndexOutOfBoundsException",
        "int count(int) throws IllegalArgumentException",
        "int delay(int, int, int) throws IndexOutOfBoundsException, NoSuchElementException",
        "int end(int) throws IllegalArgumentException",
        "int feed(int, int, int, int, int) throws IndexOutOfBoundsException",
        "int lay() throws IllegalStateException",
        "int register(int) throws IllegalStateException, IllegalArgumentException",
        "int row(int, int) throws IllegalStateException, IndexOutOfBoundsException, IllegalArgumentException",
        "int run(boolean) throws IllegalStateException",
        "int set(int, int) throws IllegalArgumentException",
        "int text()"};
    /** Only what the rules leave to no program: what this class happens not to use is free. */
    private static final String[] RULED_OUT = {
        "(?m)^(?!\\s*(case|default)\\b).*->", "::", "\\bfinally\\b", "\\bsynchronized\\b", "\\bassert\\b", "Exact\\(",
        "static \\{", "\\btry \\(", "System\\.(?!arraycopy)", "\\bThread\\b", "\\bRandom\\b", "\\bvolatile\\b",
        "getMessage", "\\bThrowable\\b", "\\bError\\b", "\\bNullPointerException\\b", "\\bArrayIndexOutOfBounds",
        "\\bClassCastException\\b", "\\bNegativeArraySize", "\\bArrayStoreException\\b", "catch \\(Exception\\b",
        "throw new (?!IllegalStateException|IllegalArgumentException|IndexOutOfBoundsException|ArithmeticException"
            + "|UnsupportedOperationException|NoSuchElementException|RuntimeException)",
        "throw (?!new )",
        "import (?!java\\.util\\.(Arrays|ArrayList|List|Iterator|NoSuchElementException);)", "(?m)^package "};

    public static void main(String[] args) throws IOException {
        face();
        rest();
        text();
        Check.ends();
    }

    private static void face() {
        Set<String> found = new TreeSet<>();
        for (Method method : LoopForge.class.getDeclaredMethods()) {
            if (Modifier.isPublic(method.getModifiers())) {
                Check.same(method + " belongs to an object", Modifier.isStatic(method.getModifiers()), false);
                String thrown = names(method.getExceptionTypes());
                found.add(method.getReturnType().getSimpleName() + " " + method.getName() + "("
                        + names(method.getParameterTypes()) + ")" + (thrown.isEmpty() ? "" : " throws " + thrown));
            }
        }
        Check.same("the face", found, new TreeSet<>(Arrays.asList(FACE)));
        Constructor<?>[] constructors = LoopForge.class.getDeclaredConstructors();
        Check.same("constructors", constructors.length, 1);
        Check.same("the constructor", constructors[0].toString(), "public LoopForge()");
        Check.same("the class", Modifier.toString(LoopForge.class.getModifiers()), "public final");
    }

    private static String names(Class<?>[] types) {
        StringBuilder all = new StringBuilder();
        for (Class<?> type : types) {
            all.append(all.length() == 0 ? "" : ", ").append(type.getSimpleName());
        }
        return all.toString();
    }

    private static void rest() {
        Set<String> open = new TreeSet<>();
        for (Method method : LoopForge.class.getDeclaredMethods()) {
            if (Modifier.isPublic(method.getModifiers())) {
                open.add(method.getName());
            } else {
                isPrivate(method);
            }
        }
        for (Field field : LoopForge.class.getDeclaredFields()) {
            isPrivate(field);
            staticIsFinal(field);
        }
        Class<?>[] inside = LoopForge.class.getDeclaredClasses();
        Check.same("classes", inside.length <= 12, true);
        for (Class<?> one : inside) {
            Check.same(one + " is static", Modifier.isStatic(one.getModifiers()), true);
            for (Method method : one.getDeclaredMethods()) {
                boolean hidden = Modifier.isPrivate(method.getModifiers());
                Check.same(method + " has a name of its own", hidden && open.contains(method.getName()), false);
                Check.same(method + " has few parameters", method.getParameterCount() <= 7, true);
            }
            int fields = 0;
            for (Field field : one.getDeclaredFields()) {
                staticIsFinal(field);
                fields += Modifier.isStatic(field.getModifiers()) ? 0 : 1;
            }
            Check.same(one + " has few fields", fields <= 20, true);
        }
    }

    private static void isPrivate(Member member) {
        Check.same(member + " is private", Modifier.isPrivate(member.getModifiers()), true);
    }

    private static void staticIsFinal(Field field) {
        int modifiers = field.getModifiers();
        Check.same(field + " is final", !Modifier.isStatic(modifiers) || Modifier.isFinal(modifiers), true);
    }

    private static void text() throws IOException {
        String source = Files.readString(Path.of("src/main/java/LoopForge.java"));
        String code = source.replaceAll("(?s)/\\*.*?\\*/", "").replaceAll("//[^\n]*", "");
        for (String pattern : RULED_OUT) {
            Matcher matcher = Pattern.compile(pattern).matcher(code);
            Check.same("ruled out: " + pattern, matcher.find(), false);
        }
        Matcher methods = Pattern.compile("(?ms)^( +)(?:public |private |static )*\\w[\\w\\[\\]]* \\w+\\([^)]*\\)"
                + "[^;{]*\\{\n.*?^\\1\\}").matcher(code);
        int found = 0;
        while (methods.find()) {
            found++;
            Check.same("short: " + methods.group().lines().findFirst().get().trim(),
                    methods.group().lines().count() <= 60, true);
        }
        Check.same("methods were found", found >= FACE.length, true);
    }
}
