import java.io.IOException;
import java.lang.reflect.InvocationTargetException;
import java.lang.reflect.Method;
import java.lang.reflect.Modifier;
import java.nio.file.Files;
import java.nio.file.Path;
import java.util.regex.Matcher;
import java.util.regex.Pattern;

/** README.md: its examples answer as it says, and it tells of each call of the face and what that throws. */
public final class ReadmeTest {
    private static final Pattern BLOCK = Pattern.compile("(?ms)^```java\n(.*?)^```$");
    private static final Pattern CALL = Pattern.compile("forge\\.(\\w+)\\((.*)\\); *// (throws )?([-\\w]+)(:.*)?");

    public static void main(String[] args) throws IOException {
        String readme = Files.readString(Path.of("README.md"));
        examples(readme);
        feedsATextAsReadmeDoes(readme);
        tellsOfEachCall(readme);
        Check.ends();
    }

    private static void examples(String readme) {
        int calls = 0;
        Matcher blocks = BLOCK.matcher(readme);
        while (blocks.find()) {
            if (blocks.group(1).startsWith("LoopForge forge = new LoopForge();\n")) {
                calls += example(blocks.group(1));
            }
        }
        Check.same("examples were found", calls > 40, true);
    }

    /** Answers with the number of calls. */
    private static int example(String block) {
        LoopForge forge = new LoopForge();
        int calls = 0;
        for (String line : block.lines().skip(1).toList()) {
            if (!line.startsWith("//")) {
                Matcher call = CALL.matcher(line);
                boolean found = call.matches();
                Check.same("an example: " + line, found, true);
                if (found) {
                    calls++;
                    Check.same(line, answer(forge, call.group(1), call.group(2)), call.group(4));
                }
            }
        }
        return calls;
    }

    private static String answer(LoopForge forge, String name, String arguments) {
        Object[] values = arguments.isEmpty() ? new Object[0] : values(arguments.split(", "));
        try {
            return method(name).invoke(forge, values).toString();
        } catch (InvocationTargetException e) {
            return e.getCause().getClass().getSimpleName();
        } catch (IllegalAccessException e) {
            return "no call of the face";
        }
    }

    private static Object[] values(String[] texts) {
        Object[] values = new Object[texts.length];
        for (int k = 0; k < texts.length; k++) {
            boolean truth = texts[k].equals("true") || texts[k].equals("false");
            values[k] = truth ? (Object) Boolean.valueOf(texts[k]) : (Object) Long.decode(texts[k]).intValue();
        }
        return values;
    }

    private static Method method(String name) {
        for (Method method : LoopForge.class.getDeclaredMethods()) {
            if (method.getName().equals(name)) {
                return method;
            }
        }
        throw new IllegalStateException("no method " + name);
    }

    static void feedText(LoopForge forge, String text) {
        for (int at = 0; at < text.length(); at += 20) {
            int[] words = new int[5];
            for (int k = 0; k < 20; k++) {
                int b = at + k < text.length() ? text.charAt(at + k) : ' ';
                words[k / 4] = words[k / 4] << 8 | b;
            }
            forge.feed(words[0], words[1], words[2], words[3], words[4]);
        }
    }

    private static void feedsATextAsReadmeDoes(String readme) throws IOException {
        String source = Files.readString(Path.of("src/test/java/ReadmeTest.java"));
        Matcher mine = Pattern.compile("(?ms)^    static void feedText.*?^    \\}\n").matcher(source);
        Check.same("feedText is here", mine.find(), true);
        Check.same("feedText is there", readme.contains(mine.group().replaceAll("(?m)^    ", "")), true);
        LoopForge forge = new LoopForge();
        feedText(forge, "r0=a[1*i] r3=r3+r0 d[1*i]=r3");
        Check.due("bytes", () -> forge.count(2), 40);
        Check.due("text", forge::text, -1);
        feedText(forge, " ".repeat(4072) + "r1=\u00ff+1 ");
        Check.due("bytes", () -> forge.count(2), 4080);
        Check.due("text", forge::text, 4075);
    }

    private static void tellsOfEachCall(String readme) {
        for (Method method : LoopForge.class.getDeclaredMethods()) {
            if (Modifier.isPublic(method.getModifiers())) {
                Matcher row = Pattern.compile("(?m)^\\| `" + method.getName() + "\\((.*?)\\)` \\|.*$").matcher(readme);
                Check.same("README.md has " + method.getName(), row.find(), true);
                int names = row.group(1).isEmpty() ? 0 : row.group(1).split(", ").length;
                Check.same("parameters of " + method.getName(), names, method.getParameterCount());
                StringBuilder thrown = new StringBuilder();
                Matcher exceptions = Pattern.compile("\\w+Exception").matcher(row.group());
                while (exceptions.find()) {
                    thrown.append(exceptions.group()).append(' ');
                }
                Check.same("what " + method.getName() + " throws", thrown.toString(), throwsOf(method));
            }
        }
    }

    private static String throwsOf(Method method) {
        StringBuilder all = new StringBuilder();
        for (Class<?> type : method.getExceptionTypes()) {
            all.append(type.getSimpleName()).append(' ');
        }
        return all.toString();
    }
}
