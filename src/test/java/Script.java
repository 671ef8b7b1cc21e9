import java.lang.reflect.InvocationTargetException;
import java.lang.reflect.Method;
import java.lang.reflect.Modifier;
import java.util.ArrayList;
import java.util.HashMap;
import java.util.List;
import java.util.Map;
import java.util.StringJoiner;
import java.util.regex.Matcher;
import java.util.regex.Pattern;

/**
 * A run of calls on a new object, written as words with a blank between two.
 *
 * <p>{@code set(0,5)=0} is a call and the answer that is due, {@code set(0,5)} a call whose answer does not matter,
 * {@code set(9,5)!I} a call that must be refused: by I, an IndexOutOfBoundsException, A, an IllegalArgumentException,
 * S, an IllegalStateException, or N, a NoSuchElementException. {@code 8*set(0,5)} is the word eight times.
 *
 * <p>Some words stand for several calls: {@code text(ab/cd)} types signs, {@code land(ab/cd)} reads them too,
 * {@code all(level)} asks of each cell, {@code stands()} and {@code soaked()} ask for the water of each cell,
 * {@code totals()} for the six of total, {@code page(0)} writes a map and reads the page, {@code dams(9,4)} asks for
 * the cells with dams in a wall.
 */
final class Script {
    /** What later calls answer is free, so that no test may ask for it. */
    static final int MOST_CALLS = 512;
    private static final Pattern WORD = Pattern.compile("(?:(\\d+)\\*)?(\\w+)\\(([^)]*)\\)(?:=(\\S+)|!([IASN]))?");
    private static final Map<String, Method> FACE = new HashMap<>();
    private static final Map<String, String> REFUSALS = Map.of("I", "throws.IndexOutOfBoundsException",
            "A", "throws.IllegalArgumentException", "S", "throws.IllegalStateException",
            "N", "throws.NoSuchElementException");

    static {
        for (Method method : ClaySurvey.class.getDeclaredMethods()) {
            if (Modifier.isPublic(method.getModifiers())) {
                FACE.put(method.getName(), method);
            }
        }
    }

    private final ClaySurvey survey = new ClaySurvey();
    private int calls;

    /** What is not as the words say; empty if all is. */
    static List<String> faults(String words) {
        List<String> faults = new ArrayList<>();
        List<Matcher> all = parsed(words);
        Script script = new Script();
        for (int at = 0; at < all.size(); at++) {
            Matcher word = all.get(at);
            String want = word.group(5) == null ? word.group(4) : REFUSALS.get(word.group(5));
            for (int i = 0; i < times(word); i++) {
                String got = script.play(word);
                if (want == null ? got.contains("throws.") : !got.equals(want)) {
                    faults.add(word.group() + " answered " + got);
                }
            }
            if (word.group(5) != null) {
                faults.addAll(changes(all, at));
            }
        }
        return faults;
    }

    private static List<Matcher> parsed(String words) {
        List<Matcher> all = new ArrayList<>();
        for (String one : words.trim().split("\\s+")) {
            Matcher word = WORD.matcher(one);
            if (!word.matches()) {
                throw new AssertionError("no word: " + one);
            }
            all.add(word);
        }
        return all;
    }

    private static int times(Matcher word) {
        return word.group(1) == null ? 1 : Integer.parseInt(word.group(1));
    }

    /** Plays the words up to a refused one and those before it alone, on new objects, and looks for what differs. */
    private static List<String> changes(List<Matcher> all, int refused) {
        List<String> faults = new ArrayList<>();
        for (int kind = 0; kind < 4; kind++) {
            String before = played(all, refused).seen(kind);
            String after = played(all, refused + 1).seen(kind);
            if (!before.equals(after)) {
                faults.add(all.get(refused).group() + " changed " + before + " to " + after);
            }
        }
        return faults;
    }

    private static Script played(List<Matcher> all, int count) {
        Script script = new Script();
        for (Matcher word : all.subList(0, count)) {
            for (int i = 0; i < times(word); i++) {
                script.play(word);
            }
        }
        return script;
    }

    /** All that can be asked, in four parts, so that each of them stays within the calls of one object. */
    private String seen(int kind) {
        StringJoiner all = new StringJoiner(" ");
        switch (kind) {
            case 0 -> all.add(all("height")).add(all("groundOf")).add(waters("false")).add(waters("true"));
            case 1 -> seeRest(all);
            case 2 -> seeOlder(all);
            default -> {
                all.add(call("errorKind")).add(call("errorPlace"));
                for (int i = 0; i < 3; i++) {
                    all.add(call("step", "1")).add(call("digest")).add(totals());
                }
                all.add(call("sun", "100")).add(waters("false")).add(call("read")).add(all("height"));
            }
        }
        return all.toString();
    }

    private void seeRest(StringJoiner all) {
        for (String name : List.of("rows", "columns", "digest", "lakes", "meanHeight", "lakeShare")) {
            all.add(call(name));
        }
        all.add(call("type", "0")).add(totals());
        for (int profile = 0; profile < 6 && !call("holds", "" + profile).contains("throws."); profile++) {
            for (int layer = 0; layer < 5; layer++) {
                for (int what = 0; what < 3; what++) {
                    all.add(call("layerAt", "" + profile, "" + layer, "" + what));
                }
            }
        }
        all.add(bytes());
        all.add(call("profile"));
    }

    private void seeOlder(StringJoiner all) {
        for (int i = 0; i < 9; i++) {
            all.add(call("undo")).add(call("rows")).add(call("columns")).add(call("digest")).add(call("meanHeight"));
            all.add(call("height", "0"));
        }
        all.add(all("height")).add(all("groundOf"));
    }

    private String play(Matcher word) {
        String[] with = word.group(3).isEmpty() ? new String[0] : word.group(3).split(",");
        switch (word.group(2)) {
            case "text":
                return type(with[0]);
            case "land":
                type(with[0]);
                return call("read");
            case "all":
                return all(with[0]);
            case "stands":
                return waters("false");
            case "soaked":
                return waters("true");
            case "totals":
                return totals();
            case "page":
                call("write", with[0]);
                return bytes();
            case "dams":
                return dams(with[0], with[1]);
            default:
                return call(word.group(2), with);
        }
    }

    private String type(String signs) {
        String length = "";
        for (int at = 0; at < signs.length(); at += 8) {
            long bytes = 0;
            for (int i = at; i < at + 8 && i < signs.length(); i++) {
                bytes = bytes << 8 | signs.charAt(i);
            }
            length = call("type", "" + bytes);
        }
        return length;
    }

    private int cells() {
        return Integer.parseInt(call("rows")) * Integer.parseInt(call("columns"));
    }

    private String all(String name) {
        StringJoiner answers = new StringJoiner(",");
        for (int cell = 0, cells = cells(); cell < cells; cell++) {
            answers.add(call(name, "" + cell));
        }
        return answers.toString();
    }

    private String waters(String isInGround) {
        StringJoiner answers = new StringJoiner(",");
        for (int cell = 0, cells = cells(); cell < cells; cell++) {
            answers.add(call("water", "" + cell, isInGround));
        }
        return answers.toString();
    }

    private String totals() {
        StringJoiner answers = new StringJoiner(",");
        for (int what = 0; what < 6; what++) {
            answers.add(call("total", "" + what));
        }
        return answers.toString();
    }

    private String bytes() {
        StringBuilder signs = new StringBuilder();
        String sign = call("pageAt", "0");
        for (int index = 1; Character.isDigit(sign.charAt(0)); index++) {
            signs.append((char) Integer.parseInt(sign));
            sign = call("pageAt", "" + index);
        }
        return signs.toString();
    }

    private String dams(String level, String place) {
        StringJoiner cells = new StringJoiner(",");
        for (int cell = 0, count = cells(); cell < count; cell++) {
            if (call("isDam", level, place, "" + cell).equals("true")) {
                cells.add("" + cell);
            }
        }
        return cells.length() == 0 ? "none" : cells.toString();
    }

    /** The answer as a text, or the name of what was thrown; what the machine throws by itself has another name. */
    private String call(String name, String... with) {
        calls++;
        if (calls > MOST_CALLS) {
            throw new AssertionError("a test of more than " + MOST_CALLS + " calls");
        }
        Method method = FACE.get(name);
        Object[] arguments = new Object[with.length];
        for (int i = 0; i < with.length; i++) {
            arguments[i] = argument(method.getParameterTypes()[i], with[i]);
        }
        try {
            return String.valueOf(method.invoke(survey, arguments));
        } catch (InvocationTargetException e) {
            Throwable thrown = e.getCause();
            boolean isOurs = thrown.getStackTrace()[0].getClassName().startsWith("ClaySurvey");
            return (isOurs ? "throws." : "the machine throws.") + thrown.getClass().getSimpleName();
        } catch (IllegalAccessException e) {
            throw new AssertionError(name + " is not of the face", e);
        }
    }

    private static Object argument(Class<?> type, String text) {
        if (type == boolean.class) {
            return Boolean.valueOf(text);
        }
        long number = switch (text) {
            case "MIN" -> type == int.class ? Integer.MIN_VALUE : Long.MIN_VALUE;
            case "MAX" -> type == int.class ? Integer.MAX_VALUE : Long.MAX_VALUE;
            default -> text.startsWith("0x") ? Long.parseUnsignedLong(text.substring(2).replace("_", ""), 16)
                    : Long.parseLong(text);
        };
        return type == int.class ? (Object) Math.toIntExact(number) : (Object) number;
    }
}
