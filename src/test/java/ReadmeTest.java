import java.lang.reflect.Method;
import java.nio.file.Files;
import java.nio.file.Path;
import java.util.HashMap;
import java.util.HashSet;
import java.util.Map;
import java.util.Set;
import java.util.regex.Matcher;
import java.util.regex.Pattern;

/** The calls that README.md shows, in its order, on one board: each answers what stands behind it. */
public final class ReadmeTest {
    private static final Pattern CALL = Pattern.compile("board\\.(\\w+)\\((.*)\\); +// ([^:]+)(:.*)?");
    private static final Due due = new Due("ReadmeTest");

    public static void main(String[] args) throws Exception {
        Map<String, Method> methods = new HashMap<>();
        for (Method method : RodBoard.class.getMethods()) {
            if (method.getDeclaringClass() == RodBoard.class) methods.put(method.getName(), method);
        }
        RodBoard board = new RodBoard();
        Set<String> shown = new HashSet<>();
        for (String line : Files.readAllLines(Path.of("README.md"))) {
            if (!line.startsWith("board.")) continue;
            Matcher call = CALL.matcher(line);
            due.is("a call and its answer: " + line, call.matches() ? 1 : 0, 1);
            if (!call.matches()) continue;
            Method method = methods.get(call.group(1));
            due.is("there is such a call: " + line, method == null ? 0 : 1, 1);
            if (method == null) continue;
            shown.add(method.getName());
            due.is(line, answer(board, method, call.group(2)), number(call.group(3)));
        }
        for (String name : new String[] {"lay", "reading", "root", "blame", "mend", "answer", "joined", "problem"}) {
            due.is(name + " is shown", shown.contains(name) ? 1 : 0, 1);
        }
        due.end();
    }

    private static long answer(RodBoard board, Method method, String told) throws Exception {
        String[] words = told.isEmpty() ? new String[0] : told.split(", ");
        Object[] numbers = new Object[words.length];
        for (int i = 0; i < words.length; i++) {
            boolean isLong = method.getParameterTypes()[i] == long.class;
            numbers[i] = isLong ? (Object) Long.valueOf(words[i]) : (Object) Integer.valueOf(words[i]);
        }
        return ((Number) method.invoke(board, numbers)).longValue();
    }

    /** A number, or constants of the face put together. */
    private static long number(String told) throws Exception {
        long sum = 0;
        for (String word : told.trim().split(" \\+ ")) {
            boolean isName = Character.isLetter(word.charAt(0));
            sum += isName ? ((Number) RodBoard.class.getField(word).get(null)).longValue() : Long.parseLong(word);
        }
        return sum;
    }
}
