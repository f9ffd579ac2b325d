import java.lang.reflect.Method;
import java.nio.file.Files;
import java.nio.file.Path;
import java.util.regex.Matcher;
import java.util.regex.Pattern;

/** The examples of README.md, call by call: each answer that a comment tells is the one that comes. */
public final class ReadmeTest {
    private static final Path FILE = Path.of("README.md");
    private static final Pattern MADE = Pattern.compile("EnclaveBoard board = new EnclaveBoard\\((\\w+)\\);.*");
    private static final Pattern CALL = Pattern.compile("board\\.(\\w+)\\(([^)]*)\\);(?:\\s*//(?: = (-?\\w+))?.*)?");
    private static final int EXAMPLES = 2;

    public static void main(String[] args) throws Exception {
        Check check = new Check("ReadmeTest");
        boolean isJava = false;
        int made = 0;
        EnclaveBoard board = null;
        for (String line : Files.readAllLines(FILE)) {
            Matcher maker = MADE.matcher(line);
            if (line.startsWith("```")) {
                isJava = line.equals("```java");
            } else if (isJava && maker.matches()) {
                board = new EnclaveBoard(number(maker.group(1)));
                made++;
            } else if (isJava) {
                follow(check, board, line);
            }
        }
        check.due("examples", made, EXAMPLES);
        check.end();
    }

    private static void follow(Check check, EnclaveBoard board, String line) throws Exception {
        Matcher call = CALL.matcher(line);
        check.due(line + " is a call on a board", board != null && call.matches(), true);
        if (board == null || !call.matches()) {
            return;
        }
        long answer = answerOf(board, call.group(1), call.group(2).isEmpty() ? new String[0] : call.group(2).split(", "));
        if (call.group(3) != null) {
            check.due(line, answer, number(call.group(3)));
        } else if (call.group(1).equals("poke")) {
            check.due(line, answer, 1);
        }
    }

    private static long answerOf(EnclaveBoard board, String name, String[] told) throws Exception {
        for (Method method : EnclaveBoard.class.getMethods()) {
            if (method.getName().equals(name) && method.getParameterCount() == told.length) {
                Object[] arguments = new Object[told.length];
                for (int k = 0; k < told.length; k++) {
                    boolean isInt = method.getParameterTypes()[k] == int.class;
                    arguments[k] = isInt ? (Object) (int) number(told[k]) : (Object) number(told[k]);
                }
                Object answer = method.invoke(board, arguments);
                return answer instanceof Boolean b ? b ? 1 : 0 : answer instanceof Number n ? n.longValue() : 0;
            }
        }
        throw new IllegalStateException("no method " + name + " with " + told.length);
    }

    private static long number(String told) {
        return Long.decode(told.endsWith("L") ? told.substring(0, told.length() - 1) : told);
    }
}
