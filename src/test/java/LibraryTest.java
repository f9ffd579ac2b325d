import java.io.IOException;
import java.nio.file.Files;
import java.nio.file.Path;
import java.util.Set;
import java.util.TreeSet;
import java.util.regex.Matcher;
import java.util.regex.Pattern;

/** The class uses nothing of the library but what has been looked at against rule 4 of LANGUAGE.md. */
public final class LibraryTest {
    private static final Path FILE = Path.of("src/main/java/EnclaveBoard.java");
    // A function that comes to this list must stand in rule 4 first: dividing without sign does not.
    private static final Set<String> LOOKED_AT = Set.of("Arrays.fill", "Math.min", "Math.multiplyHigh", "Long.compareUnsigned");
    private static final Pattern OF_LIBRARY = Pattern.compile(
            "\\b(Arrays|Math|StrictMath|Long|Integer|Short|Byte|Character|Boolean|Double|Float|String|System|List|Objects)\\s*\\.\\s*(\\w+)");

    public static void main(String[] args) throws IOException {
        Check check = new Check("LibraryTest");
        String text = Files.readString(FILE);
        for (String name : usedBy(text)) {
            check.due(name + " is on the list", LOOKED_AT.contains(name), true);
        }
        for (String line : text.split("\n")) {
            if (line.startsWith("import ")) {
                check.due(line + " is on the list", line.equals("import java.util.Arrays;"), true);
            }
        }
        check.end();
    }

    private static Set<String> usedBy(String text) {
        Set<String> used = new TreeSet<>();
        Matcher matcher = OF_LIBRARY.matcher(text);
        while (matcher.find()) {
            used.add(matcher.group(1) + "." + matcher.group(2));
        }
        return used;
    }
}
