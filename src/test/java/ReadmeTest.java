import java.io.IOException;
import java.lang.reflect.InvocationTargetException;
import java.lang.reflect.Method;
import java.nio.file.Files;
import java.nio.file.Path;
import java.util.regex.Matcher;
import java.util.regex.Pattern;

/** README.md tells what is so: each call of its example answers what stands behind it. */
public final class ReadmeTest {
    private static final Pattern CALL = Pattern.compile("board\\.(\\w+)\\((.*)\\); // (\\S+?):?( .*)?");
    private static final Pattern TELL = Pattern.compile("tell\\(board, \"(.*)\"\\); // (\\d+)(:.*)?");
    private static final Check check = new Check();

    public static void main(String[] args) throws IOException {
        String page = Files.readString(Path.of("README.md"));
        example(page);
        wholeFace(page);
        check.end();
    }

    private static void example(String page) {
        PlugBoard board = null;
        int calls = 0;
        for (String line : page.split("\n")) {
            Matcher call = CALL.matcher(line);
            Matcher tell = TELL.matcher(line);
            if (line.equals("PlugBoard board = new PlugBoard();")) {
                board = new PlugBoard();
            } else if (call.matches()) {
                calls++;
                check.due(line, answer(board, call.group(1), call.group(2)), call.group(3));
            } else if (tell.matches()) {
                calls++;
                check.due(line, Check.type(board, tell.group(1)), Integer.parseInt(tell.group(2)));
            } else {
                check.due("a call without an answer: " + line, line.startsWith("board.") || line.startsWith("tell("), false);
            }
        }
        check.due("some calls are there", calls > 40, true);
    }

    private static void wholeFace(String page) {
        for (Method method : PlugBoard.class.getMethods()) {
            if (method.getDeclaringClass() == PlugBoard.class) {
                boolean told = Pattern.compile("`" + method.getName() + "\\b").matcher(page).find();
                check.due("told of " + method.getName(), told, true);
            }
        }
    }

    private static String answer(PlugBoard board, String name, String arguments) {
        String[] told = arguments.isEmpty() ? new String[0] : arguments.split(", ");
        for (Method method : PlugBoard.class.getMethods()) {
            if (method.getName().equals(name) && method.getParameterCount() == told.length) {
                return answer(board, method, told);
            }
        }
        return "no such call";
    }

    private static String answer(PlugBoard board, Method method, String[] told) {
        Object[] arguments = new Object[told.length];
        for (int i = 0; i < told.length; i++) {
            arguments[i] = argument(told[i], method.getParameterTypes()[i]);
        }
        try {
            return String.valueOf(method.invoke(board, arguments));
        } catch (InvocationTargetException thrown) {
            return thrown.getCause().getClass().getSimpleName();
        } catch (IllegalAccessException barred) {
            return barred.toString();
        }
    }

    private static Object argument(String told, Class<?> type) {
        if (type == boolean.class) {
            return Boolean.valueOf(told);
        }
        if (type == long.class) {
            return Long.decode(told.replace("L", ""));
        }
        return Integer.valueOf(told);
    }
}
