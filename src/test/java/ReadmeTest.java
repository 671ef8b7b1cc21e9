import java.io.IOException;
import java.nio.file.Files;
import java.nio.file.Path;
import java.util.Map;
import java.util.Set;
import java.util.TreeSet;
import java.util.regex.Matcher;
import java.util.regex.Pattern;

/** The example of README.md answers what it says, and its table names each call. */
public final class ReadmeTest {
    private static final Pattern CALL = Pattern.compile(
            "survey\\.(\\w+)\\(([^)]*)\\);\\s*// (throws \\w+|-?\\w+)");
    private static final Map<String, String> REFUSALS = Map.of("throws IllegalStateException", "!S");

    private static int wrong;

    public static void main(String[] args) throws IOException {
        String readme = Files.readString(Path.of("README.md"));
        StringBuilder words = new StringBuilder();
        int calls = 0;
        for (String line : readme.split("\n")) {
            Matcher call = CALL.matcher(line);
            if (call.find()) {
                calls++;
                words.append(call.group(1)).append('(').append(call.group(2).replace(" ", "").replace("L", ""))
                        .append(')').append(REFUSALS.getOrDefault(call.group(3), "=" + call.group(3))).append(' ');
            } else if (line.startsWith("survey.")) {
                tell("no answer is told in: " + line);
            }
        }
        if (calls == 0) {
            tell("no calls");
        }
        for (String fault : Script.faults(words.toString())) {
            tell(fault);
        }
        namesEachCall(readme);
        System.out.println(wrong == 0 ? "README.md is right" : wrong + " places of README.md are wrong");
        System.exit(wrong == 0 ? 0 : 1);
    }

    private static void tell(String what) {
        wrong++;
        System.out.println(what);
    }

    private static void namesEachCall(String readme) {
        Set<String> face = new TreeSet<>();
        for (java.lang.reflect.Method method : ClaySurvey.class.getMethods()) {
            if (method.getDeclaringClass() == ClaySurvey.class) {
                face.add(method.getName());
            }
        }
        Set<String> named = new TreeSet<>();
        for (String line : readme.split("\n")) {
            if (line.startsWith("| ")) {
                Matcher name = Pattern.compile("`(\\w+)`").matcher(line);
                while (name.find()) {
                    named.add(name.group(1));
                }
            }
        }
        if (!face.equals(named)) {
            tell("the table names " + named + ", the calls are " + face);
        }
    }
}
