import java.io.IOException;
import java.lang.reflect.Method;
import java.lang.reflect.Modifier;
import java.nio.file.Files;
import java.nio.file.Paths;
import java.util.HashSet;
import java.util.Set;
import java.util.regex.Matcher;
import java.util.regex.Pattern;

/** The calls that README.md shows are made here, one after the other, and answer as it says. */
public final class ReadmeTests {
    private static final Pattern CALL =
            Pattern.compile("ricks\\.(\\w+)\\(([^()]*)\\); +// (-?\\d+|[A-Z]+)\\b.*");
    private static final Pattern TEXT = Pattern.compile(
            "for \\(char sign : \"(.*)\"\\.toCharArray\\(\\)\\) \\{ ricks\\.append\\(sign\\); \\}");
    private static final Pattern LINE = Pattern.compile("the length of \"(.*)\"");
    private static final Due due = new Due("ReadmeTests");

    public static void main(String[] args) throws IOException, ReflectiveOperationException {
        due.part("README.md");
        String page = Files.readString(Paths.get("README.md"));
        Matcher blocks = Pattern.compile("(?s)```java\n(.*?)```").matcher(page);
        while (blocks.find()) {
            theBlock(blocks.group(1));
        }
        due.end();
    }

    private static void theBlock(String block) throws ReflectiveOperationException {
        LeaningRicks ricks = null;
        Set<String> shown = new HashSet<>();
        for (String line : block.split("\n")) {
            Matcher call = CALL.matcher(line);
            Matcher text = TEXT.matcher(line);
            if (line.equals("LeaningRicks ricks = new LeaningRicks();")) {
                ricks = new LeaningRicks();
            } else if (call.matches()) {
                due.is(line, answer(ricks, call.group(1), call.group(2)), number(call.group(3)));
                shown.add(call.group(1));
                theLine(ricks, line);
            } else if (text.matches()) {
                due.is(line, Calls.append(ricks, text.group(1)), text.group(1).length());
                shown.add("append");
            } else {
                due.is("a line that is no call: " + line,
                        line.isEmpty() || line.startsWith("//") ? 1 : 0, 1);
            }
        }
        for (Method method : LeaningRicks.class.getDeclaredMethods()) {
            String name = method.getName();
            due.is(name + " is shown", shown.contains(name) ? 1 : 0,
                    Modifier.isPublic(method.getModifiers()) ? 1 : 0);
        }
    }

    private static void theLine(LeaningRicks ricks, String line) {
        Matcher told = LINE.matcher(line);
        if (told.find()) {
            due.isText(line, Calls.line(ricks), told.group(1));
        }
    }

    private static long answer(LeaningRicks ricks, String name, String numbers)
            throws ReflectiveOperationException {
        String[] told = numbers.isEmpty() ? new String[0] : numbers.split(", ");
        Class<?>[] kinds = new Class<?>[told.length];
        Object[] values = new Object[told.length];
        for (int i = 0; i < told.length; i++) {
            boolean isNumber = told[i].matches("\\d+");
            kinds[i] = isNumber ? int.class : boolean.class;
            values[i] = isNumber ? (Object) Integer.valueOf(told[i]) : Boolean.valueOf(told[i]);
        }
        Method method = LeaningRicks.class.getMethod(name, kinds);
        return ((Number) method.invoke(ricks, values)).longValue();
    }

    /** A number, or one of the constants. */
    private static long number(String told) throws ReflectiveOperationException {
        return told.matches("-?\\d+") ? Long.parseLong(told)
                : LeaningRicks.class.getField(told).getInt(null);
    }
}
