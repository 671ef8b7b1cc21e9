import java.io.IOException;
import java.nio.file.Files;
import java.nio.file.Path;
import java.util.HashMap;
import java.util.HashSet;
import java.util.List;
import java.util.Map;
import java.util.Set;
import java.util.regex.Matcher;
import java.util.regex.Pattern;

/** Those rules of LANGUAGE.md that can be seen in the source's words, over src/main/java/ClaySurvey.java. */
public final class LanguageTest {
    private static final List<String> NEVER = List.of("->", "::", "synchronized", "\\bassert\\b", "\\bfinally\\b",
            "\\bcatch\\b", "Exact\\b", "getMessage", "\\bprotected\\b", "\\bpackage\\b", "\\bThread\\b", "\\bRandom\\b",
            "\\bvar\\b", "\\bInteger\\b", "\\bLong\\b", "\\bObject\\b", "\\bnative\\b", "\\bvolatile\\b",
            "static\\s*\\{", "Arrays\\.(?!fill\\b|copyOf\\b|copyOfRange\\b)", "Math\\.(?!min\\b|max\\b)",
            "System\\.(?!arraycopy\\b)", "\\bdo\\b", "while\\s*\\(true\\)", "for\\s*\\(\\s*;\\s*;");
    private static final Set<String> IMPORTS = Set.of("java.util.ArrayList", "java.util.Arrays",
            "java.util.NoSuchElementException");
    private static final Pattern METHOD = Pattern.compile(
            "^ {4,8}(?:(?:public|private|static|final) )*[\\w<>\\[\\]]+ ?(\\w*)\\(([^)]*)\\)[^;{=]*\\{$",
            Pattern.MULTILINE);

    private static int wrong;

    public static void main(String[] args) throws IOException {
        String source = Files.readString(Path.of("src/main/java/ClaySurvey.java"));
        String code = bare(source);
        for (String word : NEVER) {
            Matcher found = Pattern.compile(word).matcher(code);
            while (found.find()) {
                tell("line " + lineOf(code, found.start()) + ": " + found.group());
            }
        }
        imports(code);
        classes(code);
        methods(code);
        madeInMethods(code);
        for (int at = 0; at < source.length(); at++) {
            if (source.charAt(at) > 126) {
                tell("line " + lineOf(source, at) + ": a sign above 126");
            }
        }
        System.out.println(wrong == 0 ? "the language is kept" : wrong + " places break the language");
        System.exit(wrong == 0 ? 0 : 1);
    }

    private static void tell(String what) {
        wrong++;
        System.out.println(what);
    }

    private static int lineOf(String code, int at) {
        return (int) code.substring(0, at).chars().filter(c -> c == '\n').count() + 1;
    }

    /** The code without comments and without what stands in texts and signs. */
    private static String bare(String source) {
        Matcher found = Pattern.compile("/\\*.*?\\*/|//[^\n]*|\"[^\"\n]*\"|'[^'\n]*'", Pattern.DOTALL).matcher(source);
        return found.replaceAll(m -> m.group().replaceAll("[^\n\"']", "").replace("'", "''"));
    }

    private static void imports(String code) {
        Matcher found = Pattern.compile("^import (\\S+);", Pattern.MULTILINE).matcher(code);
        while (found.find()) {
            if (!IMPORTS.contains(found.group(1))) {
                tell("import of " + found.group(1));
            }
        }
    }

    /** At most twelve classes, twenty fields in each beside its constants. */
    private static void classes(String code) {
        Map<String, Integer> fields = new HashMap<>();
        String owner = "";
        int count = 0;
        for (String line : code.split("\n")) {
            Matcher opened = Pattern.compile("^( {4})?(?:public |private )?(?:static )?final class (\\w+)").matcher(line);
            if (opened.find()) {
                owner = opened.group(2);
                count++;
            } else if (line.matches((count == 1 ? " {4}" : " {8}")
                    + "(private )?(final )?[\\w<>\\[\\]]+ \\w+( = .*)?;")) {
                fields.merge(owner, 1, Integer::sum);
            }
        }
        if (count > 12) {
            tell(count + " classes");
        }
        fields.forEach((name, many) -> {
            if (many > 20) {
                tell(name + " has " + many + " fields");
            }
        });
    }

    /** Sixty lines and seven parameters at most, and no name of the face on another method. */
    private static void methods(String code) {
        Set<String> face = new HashSet<>();
        for (java.lang.reflect.Method method : ClaySurvey.class.getMethods()) {
            if (method.getDeclaringClass() == ClaySurvey.class) {
                face.add(method.getName());
            }
        }
        Matcher found = METHOD.matcher(code);
        int count = 0;
        while (found.find()) {
            count++;
            int lines = lineOf(code, end(code, found.end() - 1)) - lineOf(code, found.start()) + 1;
            if (lines > 60) {
                tell(found.group(1) + " has " + lines + " lines");
            }
            if (found.group(2).split(",").length > 7) {
                tell(found.group(1) + " takes more than seven parameters");
            }
            if (!found.group().contains("public ") && face.contains(found.group(1))) {
                tell(found.group(1) + " bears a name of the face");
            }
        }
        if (count < 80) {
            tell("only " + count + " methods were seen");
        }
    }

    private static int end(String code, int open) {
        int depth = 0;
        for (int at = open; at < code.length(); at++) {
            depth += code.charAt(at) == '{' ? 1 : code.charAt(at) == '}' ? -1 : 0;
            if (depth == 0) {
                return at;
            }
        }
        return code.length() - 1;
    }

    /** Rows are made in fields: the one object that a call makes is a profile, of which there are six at most. */
    private static void madeInMethods(String code) {
        for (String line : code.split("\n")) {
            if (line.contains("new ") && !line.contains("throw new ") && !line.contains("final ")
                    && !line.contains("Profile made = new Profile()")) {
                tell("made in a method: " + line.trim());
            }
        }
    }
}
