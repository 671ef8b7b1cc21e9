import java.io.IOException;
import java.lang.reflect.Field;
import java.lang.reflect.Method;
import java.lang.reflect.Modifier;
import java.nio.file.Files;
import java.nio.file.Path;
import java.util.Set;
import java.util.TreeSet;
import java.util.regex.Matcher;
import java.util.regex.Pattern;

/** The public face: word for word that of the document, and nothing beside it. */
public final class FaceTest {
    private static int wrong;

    public static void main(String[] args) throws IOException {
        String document = Files.readString(Path.of("../shared/DOC.md"));
        Matcher block = Pattern.compile("```java\n(.*?)```", Pattern.DOTALL).matcher(document);
        Set<String> due = block.find() ? declared(block.group(1)) : Set.of();
        Set<String> ours = declared(Files.readString(Path.of("src/main/java/ClaySurvey.java")));
        tellMissing("not in the class", due, ours);
        tellMissing("not in the document", ours, due);
        // 48 promises: the constructor and 47 methods; and the class and its constant
        due("public declarations", due.size(), 50);
        seenFromOutside(due);
        System.out.println(wrong == 0 ? "the face is the document's" : wrong + " places of the face are wrong");
        System.exit(wrong == 0 ? 0 : 1);
    }

    private static void due(String what, Object got, Object want) {
        if (!got.equals(want)) {
            wrong++;
            System.out.println(what + ": " + got + ", due is " + want);
        }
    }

    private static void tellMissing(String what, Set<String> from, Set<String> in) {
        for (String one : from) {
            if (!in.contains(one)) {
                wrong++;
                System.out.println(what + ": " + one);
            }
        }
    }

    /** What is declared public, up to its body or its end, each blank once. */
    private static Set<String> declared(String source) {
        Set<String> all = new TreeSet<>();
        Matcher found = Pattern.compile("^(?: {4})?(public [^;{]*)[;{]", Pattern.MULTILINE).matcher(source);
        while (found.find()) {
            all.add(found.group(1).trim().replaceAll("\\s+", " "));
        }
        return all;
    }

    /** What the words of the source might hide: members without the word public, or several behind one word. */
    private static void seenFromOutside(Set<String> face) {
        int seen = 1;
        for (Method method : ClaySurvey.class.getDeclaredMethods()) {
            seen += Modifier.isPrivate(method.getModifiers()) ? 0 : 1;
        }
        for (Field field : ClaySurvey.class.getDeclaredFields()) {
            seen += Modifier.isPrivate(field.getModifiers()) ? 0 : 1;
        }
        seen += ClaySurvey.class.getDeclaredConstructors().length;
        due("the class, its members that are not private, and its constructor", seen, face.size());
        for (Class<?> inside : ClaySurvey.class.getDeclaredClasses()) {
            due(inside + " is public", Modifier.isPublic(inside.getModifiers()), false);
        }
        due("NONE", ClaySurvey.NONE, -1);
        due("the class above it", ClaySurvey.class.getSuperclass(), Object.class);
        due("interfaces", ClaySurvey.class.getInterfaces().length, 0);
    }
}
