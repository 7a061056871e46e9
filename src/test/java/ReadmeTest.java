import java.io.IOException;
import java.lang.reflect.Method;
import java.nio.file.Files;
import java.nio.file.Path;
import java.util.ArrayList;
import java.util.HashSet;
import java.util.List;
import java.util.Set;
import java.util.regex.Matcher;
import java.util.regex.Pattern;

/** What README.md says that calls answer is what they answer, and it leaves no call of the face out. */
public final class ReadmeTest extends Checks {
    private static final Pattern CALL = Pattern.compile("^x\\.(\\w+)\\((.*?)\\); *// (-?\\d+|true|false): .+$");
    private static final Set<String> CALLED = new HashSet<>();

    public static void main(String[] args) throws IOException, ReflectiveOperationException {
        String page = Files.readString(Path.of("README.md"));
        List<String> blocks = blocksOf(page);
        says("README.md");
        run(new YardRings(), blocks.get(0));
        yes("the text of README.md stands behind how to tell it", blocks.get(2).startsWith("land "));
        run(told(blocks.get(2)), blocks.get(3));
        for (Method method : YardRings.class.getDeclaredMethods()) {
            if (java.lang.reflect.Modifier.isPublic(method.getModifiers())) {
                yes(method.getName() + " is told", CALLED.contains(method.getName()) || page.contains("`" + method.getName() + "("));
            }
        }
        for (String test : new java.io.File("src/test/java").list()) {
            yes(test + " is told", page.contains("`" + test.replace(".java", "") + "`"));
        }
        end();
    }

    private static List<String> blocksOf(String page) {
        List<String> blocks = new ArrayList<>();
        Matcher block = Pattern.compile("```\\w+\n(.*?)```", Pattern.DOTALL).matcher(page);
        while (block.find()) {
            blocks.add(block.group(1));
        }
        return blocks;
    }

    private static void run(YardRings x, String block) throws ReflectiveOperationException {
        for (String line : block.split("\n")) {
            Matcher call = CALL.matcher(line);
            if (!call.matches()) {
                yes("a call with its answer: " + line, line.equals("YardRings x = new YardRings();"));
                continue;
            }
            CALLED.add(call.group(1));
            due(line, answer(x, call.group(1), call.group(2)), number(call.group(3)));
        }
    }

    private static long answer(YardRings x, String name, String arguments) throws ReflectiveOperationException {
        String[] words = arguments.isEmpty() ? new String[0] : arguments.split(", ");
        for (Method method : YardRings.class.getDeclaredMethods()) {
            if (!method.getName().equals(name)) {
                continue;
            }
            Object[] values = new Object[words.length];
            for (int i = 0; i < words.length; i++) {
                boolean truth = method.getParameterTypes()[i] == boolean.class;
                values[i] = truth ? (Object) Boolean.valueOf(words[i]) : (Object) (int) number(words[i]);
            }
            return number(method.invoke(x, values).toString());
        }
        throw new IllegalArgumentException(name);
    }

    private static long number(String word) {
        if (word.equals("true") || word.equals("false")) {
            return word.equals("true") ? 1 : 0;
        }
        if (word.contains(" << ")) {
            String[] sides = word.split(" << ");
            return Long.decode(sides[0]) << Integer.parseInt(sides[1]);
        }
        return Long.decode(word);
    }
}
