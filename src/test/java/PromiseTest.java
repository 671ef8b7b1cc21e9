import java.lang.reflect.Constructor;
import java.lang.reflect.Field;
import java.lang.reflect.Method;
import java.lang.reflect.Modifier;
import java.util.Arrays;
import java.util.NoSuchElementException;
import java.util.TreeSet;

/** Each promise by its number: ordinary inputs, the edges that the document names, and wrong inputs. */
public final class PromiseTest {
    private static final int NONE = -1;
    private static final Class<?> INDEX = IndexOutOfBoundsException.class;
    private static final Class<?> ARGUMENT = IllegalArgumentException.class;
    private static final Class<?> STATE = IllegalStateException.class;
    private static final Class<?> ELEMENT = NoSuchElementException.class;
    private static final int[] FAR = {NONE, Integer.MIN_VALUE, Integer.MAX_VALUE};

    private interface Call {
        Object answer();
    }

    private static int wrong;

    public static void main(String[] args) {
        theFace();
        aNewObject();
        theText();
        theErrorOfTheText();
        readAndBegin();
        slopeAndScatter();
        setAndUndo();
        undoAndSizes();
        levelsAndDrains();
        streams();
        sills();
        lakes();
        floods();
        walls();
        wallWithFewestCells();
        wallsInWideLand();
        names();
        profilesAndLayers();
        mixedShares();
        grounds();
        rainAndPour();
        flowing();
        soaking();
        sunAndTotals();
        maps();
        digestsAndMeans();
        theorem();
        System.out.println(wrong == 0 ? "all promises hold" : wrong + " answers are wrong");
        System.exit(wrong == 0 ? 0 : 1);
    }

    private static void due(int promise, String what, Object got, Object want) {
        if (!got.equals(want)) {
            wrong++;
            System.out.println("promise " + promise + ": " + what + " is " + got + ", due is " + want);
        }
    }

    /** The call must throw just this exception and leave all that can be asked as it was. */
    private static void refused(int promise, String what, ClaySurvey x, Class<?> why, Call call) {
        String before = all(x);
        Object got = null;
        try {
            got = call.answer();
        } catch (RuntimeException e) {
            got = e.getClass();
            due(promise, what + ", thrown by", e.getStackTrace()[0].getClassName(), "ClaySurvey");
        }
        due(promise, what, got, why);
        due(promise, what + ", and what stands after it", all(x), before);
    }

    private static String all(ClaySurvey x) {
        StringBuilder all = new StringBuilder();
        all.append(x.type(0)).append(' ').append(x.errorKind()).append(' ').append(x.errorPlace());
        all.append(' ').append(x.rows()).append('x').append(x.columns()).append(' ').append(x.digest());
        for (int cell = 0; cell < x.rows() * x.columns(); cell++) {
            all.append(' ').append(x.height(cell)).append('/').append(x.groundOf(cell)).append('/');
            all.append(x.water(cell, false)).append('/').append(x.water(cell, true));
        }
        for (int what = 0; what < 6; what++) {
            all.append(" t").append(x.total(what));
        }
        int profile = 0;
        for (boolean isThere = true; isThere; profile++) {
            try {
                all.append(" p").append(x.holds(profile));
                for (int layer = 0; layer < 5; layer++) {
                    all.append(' ').append(x.layerAt(profile, layer, 0));
                }
            } catch (IndexOutOfBoundsException e) {
                isThere = profile < 6;
            }
        }
        try {
            for (int index = 0; index < 109; index++) {
                all.append((char) x.pageAt(index));
            }
        } catch (IndexOutOfBoundsException e) {
            all.append('.');
        }
        return all.toString();
    }

    private static void type(ClaySurvey x, String text) {
        for (int at = 0; at < text.length(); at++) {
            x.type(text.charAt(at));
        }
    }

    private static ClaySurvey land(String text) {
        ClaySurvey x = new ClaySurvey();
        type(x, text);
        x.read();
        return x;
    }

    private static String page(ClaySurvey x, int what) {
        StringBuilder signs = new StringBuilder();
        int length = x.write(what);
        for (int index = 0; index < length; index++) {
            signs.append((char) x.pageAt(index));
        }
        return signs.toString();
    }

    private static String dams(ClaySurvey x, int level, int place) {
        StringBuilder cells = new StringBuilder();
        for (int cell = 0; cell < x.rows() * x.columns(); cell++) {
            if (x.isDam(level, place, cell)) {
                cells.append(cell).append(' ');
            }
        }
        return cells.toString().trim();
    }

    private static void theFace() {
        TreeSet<String> open = new TreeSet<>();
        TreeSet<String> hidden = new TreeSet<>();
        for (Method method : ClaySurvey.class.getDeclaredMethods()) {
            (Modifier.isPublic(method.getModifiers()) ? open : hidden).add(method.getName());
            due(0, method.getName() + " is public or private", Modifier.isPublic(method.getModifiers())
                    || Modifier.isPrivate(method.getModifiers()), true);
        }
        due(0, "the names of the methods", String.join(" ", open), "begin clearText columns digest drain errorKind "
                + "errorPlace errors gathers ground groundOf height holds isDam isWet lakeAt lakeOf lakeShare lakes "
                + "layer layerAt length level meanHeight mixed nameOf outlet pageAt pour profile rain rank read rows "
                + "scatter set sill slope step sun total type undo wallCost water wet write");
        hidden.retainAll(open);
        due(0, "private methods with public names", hidden.toString(), "[]");
        for (Field field : ClaySurvey.class.getDeclaredFields()) {
            due(0, field.getName() + " is private", Modifier.isPrivate(field.getModifiers()),
                    !field.getName().equals("NONE"));
        }
        Constructor<?>[] makers = ClaySurvey.class.getDeclaredConstructors();
        due(0, "constructors", makers.length, 1);
        due(0, "NONE", ClaySurvey.NONE, NONE);
    }

    private static void aNewObject() {
        ClaySurvey x = new ClaySurvey();
        due(1, "rows", x.rows(), 1);
        due(1, "columns", x.columns(), 1);
        due(1, "height", x.height(0), 0);
        due(1, "level", x.level(0), 0);
        due(1, "drain", x.drain(0), NONE);
        due(1, "outlet", x.outlet(0), 0);
        due(1, "gathers", x.gathers(0), 1);
        due(1, "rank", x.rank(0), 1);
        due(1, "length", x.length(0), 0);
        due(1, "sill", x.sill(0, 0), 0);
        due(1, "lakes", x.lakes(), 0);
        due(1, "ground", x.groundOf(0), NONE);
        due(1, "undo", x.undo(), NONE);
        due(1, "the text", x.clearText(), 0);
        for (int what = 0; what < 6; what++) {
            due(1, "total " + what, x.total(what), 0L);
        }
        refused(1, "a profile of a new object", x, INDEX, () -> x.holds(0));
        refused(1, "the page of a new object", x, INDEX, () -> x.pageAt(0));
    }

    private static void theText() {
        ClaySurvey x = new ClaySurvey();
        due(2, "type(0)", x.type(0), 0);
        due(2, "type with zeros between", x.type(0x6100_0062_0000_2F63L), 4);
        due(2, "type(-1)", x.type(-1L), 12);
        due(2, "type(MIN)", x.type(Long.MIN_VALUE), 13);
        due(3, "clearText", x.clearText(), 13);
        due(3, "clearText again", x.clearText(), 0);
        type(x, "a");
        x.type(0x622F_0000_6364L);
        x.read();
        due(2, "the highest byte first", x.height(1) + " " + x.height(3), "10 30");
        due(6, "the text stays", x.clearText(), 5);
        for (int i = 0; i < 24; i++) {
            x.type(0x6161616161616161L);
        }
        due(2, "nearly full", x.type(0x61616161616161L), 199);
        refused(2, "two bytes too many by one", x, STATE, () -> x.type(0x6161));
        due(2, "the last byte", x.type(0x6100L), 200);
        due(2, "no byte behind the last one", x.type(0), 200);
        refused(2, "a byte too many", x, STATE, () -> x.type(1));
        due(3, "clearText of a full text", x.clearText(), 200);
    }

    private static void error(String text, int kind, int place) {
        ClaySurvey x = new ClaySurvey();
        type(x, text);
        due(4, "the kind of " + text, x.errorKind(), kind);
        due(5, "the place of " + text, x.errorPlace(), place);
        if (kind != 0) {
            refused(6, "read of " + text, x, STATE, x::read);
        }
    }

    private static void theErrorOfTheText() {
        String ten = "abcdefghij";
        error("", 1, 0);
        error("/", 1, 0);
        error("a/", 1, 2);
        error("a//a", 1, 2);
        error("aB", 1, 1);
        error("`", 1, 0);
        error("{", 1, 0);
        error("a\u00e9", 1, 1);
        error("a0/", 1, 1);
        error("a", 0, NONE);
        error("az/zy", 0, NONE);
        error(ten, 0, NONE);
        error(ten + "k", 2, 10);
        error(ten + "-", 1, 10);
        error(ten + "/" + ten + "k", 2, 21);
        error("a/a/a/a/a/a/a/a/a/a", 0, NONE);
        error("a/a/a/a/a/a/a/a/a/a/a", 2, 19);
        error("a/a/a/a/a/a/a/a/a/a/", 2, 19);
        error("a/a/a/a/a/a/a/a/a//", 1, 18);
        error("ab/ab/ab/ab/ab/ab/ab/ab/ab/a/", 2, 28);
        error("ab/ab/ab/ab/ab/ab/ab/ab/ab/a", 3, 28);
        error("ab/abc", 3, 5);
        error("ab/a", 3, 4);
        error("ab/a/ab", 3, 4);
        error("ab/abC", 1, 5);
        error("ab/a?", 1, 4);
        error("ab/abcdefghijk", 3, 5);
        error((ten + "/").repeat(9) + ten, 0, NONE);
        error((ten + "/").repeat(9) + ten + "k", 2, 109);
        error((ten + "/").repeat(9) + ten + "/", 2, 109);
    }

    private static void readAndBegin() {
        ClaySurvey x = land("abz/cde");
        due(6, "the size", x.rows() + "x" + x.columns(), "2x3");
        due(6, "heights", x.height(0) + " " + x.height(1) + " " + x.height(2) + " " + x.height(5), "0 10 250 40");
        due(6, "cells", x.read(), 6);
        x.profile();
        x.ground(0, 0);
        x.read();
        due(6, "no ground after read", x.groundOf(0), NONE);
        due(7, "begin(4, 5)", x.begin(4, 5), 20);
        due(7, "the size", x.rows() + "x" + x.columns(), "4x5");
        due(12, "rows", x.rows(), 4);
        due(13, "columns", x.columns(), 5);
        due(7, "the height", x.height(19), 0);
        x.ground(3, 0);
        due(7, "begin of the same size", x.begin(4, 5), 20);
        due(7, "no ground after begin", x.groundOf(3), NONE);
        due(7, "begin(10, 10)", x.begin(10, 10), 100);
        due(7, "begin(1, 1)", x.begin(1, 1), 1);
        for (int far : new int[] {0, 11, NONE, Integer.MIN_VALUE, Integer.MAX_VALUE}) {
            refused(7, "begin(" + far + ", 1)", x, ARGUMENT, () -> x.begin(far, 1));
            refused(7, "begin(1, " + far + ")", x, ARGUMENT, () -> x.begin(1, far));
        }
        due(7, "refused calls are no changes", x.undo(), 6);
        x.begin(3, 3);
        x.pour(4, 1);
        refused(6, "read with water", x, STATE, x::read);
        refused(7, "begin with water", x, STATE, () -> x.begin(2, 2));
        refused(7, "begin(0, 1) with water", x, ARGUMENT, () -> x.begin(0, 1));
        x.sun(1);
        x.ground(4, 0);
        x.set(4, 0);
        x.slope(9, 0, 0);
        x.set(4, 0);
        x.pour(4, 1);
        x.step(1);
        due(7, "water in the ground", x.water(4, true), 1);
        refused(6, "read with water in the ground", x, STATE, x::read);
        refused(7, "begin with water in the ground", x, STATE, () -> x.begin(2, 2));
        x.sun(1);
        due(7, "begin when dry again", x.begin(2, 2), 4);
        due(6, "read when dry", x.read(), 6);
    }

    private static void slopeAndScatter() {
        ClaySurvey x = new ClaySurvey();
        x.begin(10, 10);
        due(8, "slope(0, 99, 12)", x.slope(0, 99, 12), 999);
        due(8, "its last height", x.height(99), 999);
        due(8, "slope(999, -99, -12)", x.slope(999, -99, -12), 999);
        due(8, "its heights", x.height(0) + " " + x.height(9) + " " + x.height(99), "999 891 0");
        due(8, "slope(100, -5, 9)", x.slope(100, -5, 9), 181);
        refused(8, "a height of 1000", x, ARGUMENT, () -> x.slope(1, 99, 12));
        refused(8, "a height of -1", x, ARGUMENT, () -> x.slope(998, -99, -12));
        refused(8, "a height too great in a corner", x, ARGUMENT, () -> x.slope(900, -90, 12));
        refused(8, "a height too small in a corner", x, ARGUMENT, () -> x.slope(0, -1, 99));
        refused(8, "base -1", x, ARGUMENT, () -> x.slope(-1, 1, 1));
        refused(8, "base 1000", x, ARGUMENT, () -> x.slope(1000, -1, -1));
        refused(8, "byRow 100", x, ARGUMENT, () -> x.slope(0, 100, 0));
        refused(8, "byRow -100", x, ARGUMENT, () -> x.slope(999, -100, 0));
        refused(8, "byColumn 100", x, ARGUMENT, () -> x.slope(0, 0, 100));
        refused(8, "byColumn far", x, ARGUMENT, () -> x.slope(0, 0, Integer.MIN_VALUE));
        due(8, "refused calls are no changes", x.undo(), 3);
        due(8, "undone", x.height(0), 999);
        x.begin(1, 1);
        due(8, "in one cell", x.slope(999, 99, -99), 999);

        x.begin(1, 3);
        x.slope(0, 0, 0);
        due(9, "scatter(1, 10)", x.scatter(1, 10), x.height(0) + x.height(1) + x.height(2));
        due(9, "its heights", x.height(0) + " " + x.height(1) + " " + x.height(2), drawn(1, 10));
        x.slope(0, 0, 0);
        x.scatter(Integer.MAX_VALUE, 500);
        due(9, "with the greatest seed", x.height(0) + " " + x.height(1) + " " + x.height(2),
                drawn(Integer.MAX_VALUE, 500));
        x.slope(999, 0, 0);
        due(9, "not above 999", x.scatter(7, 500), 2997);
        x.slope(10, 1, 1);
        x.scatter(7, 500);
        due(9, "undone", x.undo() + " " + x.height(0) + " " + x.height(1) + " " + x.height(2), "7 10 11 12");
        x.slope(999, 0, 0);
        due(9, "range 1 adds nothing", x.scatter(0, 1), 2997);
        for (int far : FAR) {
            refused(9, "range " + far, x, ARGUMENT, () -> x.scatter(1, far));
        }
        refused(9, "range 0", x, ARGUMENT, () -> x.scatter(1, 0));
        refused(9, "range 501", x, ARGUMENT, () -> x.scatter(1, 501));
        refused(9, "seed -1", x, ARGUMENT, () -> x.scatter(-1, 1));
        refused(9, "seed far", x, ARGUMENT, () -> x.scatter(Integer.MIN_VALUE, 1));
    }

    private static String drawn(long seed, int range) {
        StringBuilder heights = new StringBuilder();
        long x = seed;
        for (int i = 0; i < 3; i++) {
            x = (x * 1103515245L + 12345L) % 2147483648L;
            heights.append(i > 0 ? " " : "").append(x / 65536 % range);
        }
        return heights.toString();
    }

    private static void setAndUndo() {
        ClaySurvey x = land("ab/cd");
        due(10, "set(3, 999)", x.set(3, 999), 30);
        due(10, "set(3, 0)", x.set(3, 0), 999);
        due(14, "height(3)", x.height(3), 0);
        due(14, "height(1)", x.height(1), 10);
        for (int far : new int[] {4, NONE, Integer.MIN_VALUE, Integer.MAX_VALUE}) {
            refused(10, "set(" + far + ", 0)", x, INDEX, () -> x.set(far, 0));
            refused(10, "set(" + far + ", -1)", x, INDEX, () -> x.set(far, -1));
            refused(14, "height(" + far + ")", x, INDEX, () -> x.height(far));
        }
        refused(10, "set(0, -1)", x, ARGUMENT, () -> x.set(0, -1));
        refused(10, "set(0, 1000)", x, ARGUMENT, () -> x.set(0, 1000));
        due(11, "undo", x.undo(), 2);
        due(11, "the height before", x.height(3), 999);
        due(11, "undo", x.undo(), 1);
        due(11, "undo of read", x.undo(), 0);
        due(11, "the first size", x.rows() + "x" + x.columns() + " " + x.height(0), "1x1 0");
        due(11, "nothing to undo", x.undo(), NONE);
        for (int height = 1; height <= 10; height++) {
            x.set(0, height);
        }
        for (int left = 7; left >= 0; left--) {
            due(11, "undo of the latest eight", x.undo(), left);
            due(11, "the height then", x.height(0), left + 2);
        }
        due(11, "the ninth", x.undo(), NONE);
        due(11, "its height", x.height(0), 2);
        x.set(0, 2);
        due(11, "a change that changes nothing is one", x.undo(), 0);
        for (int height = 1; height <= 10; height++) {
            x.set(0, height);
        }
        x.undo();
        x.undo();
        x.set(0, 500);
        due(11, "undo behind a change after undo", x.undo(), 6);
        due(11, "the height then", x.height(0), 8);
        due(11, "one more", x.undo(), 5);
        due(11, "the height then", x.height(0), 7);
    }

    private static void undoAndSizes() {
        ClaySurvey x = new ClaySurvey();
        x.profile();
        x.begin(2, 3);
        x.begin(2, 3);
        x.ground(1, 0);
        due(11, "undo to the same size", x.undo(), 1);
        due(11, "the ground stays", x.groundOf(1), 0);
        x.set(1, 5);
        x.pour(1, 7);
        due(11, "undo of heights with water", x.undo(), 1);
        due(11, "the water stays", x.water(1, false), 7);
        refused(11, "undo of a size with water", x, STATE, x::undo);
        x.sun(7);
        x.begin(3, 2);
        x.ground(1, 0);
        x.pour(1, 1);
        refused(11, "undo of rows for columns with water", x, STATE, x::undo);
        x.sun(1);
        due(11, "undo of rows for columns", x.undo(), 1);
        due(11, "the size", x.rows() + "x" + x.columns(), "2x3");
        due(11, "no ground after it", x.groundOf(1), NONE);
        due(11, "undo of begin", x.undo(), 0);
        x.pour(0, 1);
        due(11, "nothing to undo, with water", x.undo(), NONE);
        x.step(1);
        x.begin(3, 3);
        x.slope(9, 0, 0);
        x.set(4, 0);
        x.ground(4, 0);
        x.pour(4, 1);
        x.step(1);
        due(11, "undo of set", x.undo(), 2);
        due(11, "undo of slope", x.undo(), 1);
        refused(11, "undo of a size with water in the ground", x, STATE, x::undo);
    }

    private static void levelsAndDrains() {
        ClaySurvey x = land("jjjj/jbbj/jbcj/jejj");
        due(15, "the level of a hollow", x.level(5), 40);
        due(15, "the level of its other cell", x.level(10), 40);
        due(15, "the level on the rim", x.level(13), 40);
        due(16, "drain of 9, at the sill", x.drain(9), 13);
        due(16, "drain of 5", x.drain(5), 9);
        due(16, "drain of 10", x.drain(10), 9);
        due(16, "drain of 6, reached by 5 first", x.drain(6), 5);
        due(16, "drain on the rim", x.drain(0), NONE);
        due(17, "outlet of 6", x.outlet(6), 13);
        due(17, "outlet on the rim", x.outlet(3), 3);
        due(18, "gathers of the outlet", x.gathers(13), 5);
        due(18, "gathers of 9", x.gathers(9), 4);
        due(18, "gathers of 6", x.gathers(6), 1);
        x.set(9, 50);
        due(15, "a level above the sill", x.level(5), 50);
        due(15, "after undo", x.undo() + " " + x.level(5), "1 40");
        ClaySurvey flat = new ClaySurvey();
        flat.begin(3, 3);
        due(16, "of several the least number takes", flat.drain(4), 1);
        flat.set(1, 5);
        due(16, "west before east by its number", flat.drain(4), 3);
        ClaySurvey row = land("abc");
        due(16, "all on the rim", row.drain(1), NONE);
        for (int far : new int[] {16, NONE, Integer.MIN_VALUE, Integer.MAX_VALUE}) {
            refused(15, "level(" + far + ")", x, INDEX, () -> x.level(far));
            refused(16, "drain(" + far + ")", x, INDEX, () -> x.drain(far));
            refused(17, "outlet(" + far + ")", x, INDEX, () -> x.outlet(far));
            refused(18, "gathers(" + far + ")", x, INDEX, () -> x.gathers(far));
            refused(19, "rank(" + far + ")", x, INDEX, () -> x.rank(far));
            refused(20, "length(" + far + ")", x, INDEX, () -> x.length(far));
        }
    }

    private static void streams() {
        ClaySurvey x = land("jjjj/jbbj/jbcj/jejj");
        due(19, "rank of a spring", x.rank(6), 1);
        due(19, "rank of 5, by one", x.rank(5), 1);
        due(19, "rank of 9, by two of rank 1", x.rank(9), 2);
        due(19, "rank of 13, by one of rank 2", x.rank(13), 2);
        due(20, "length of a spring", x.length(6), 0);
        due(20, "length of 9", x.length(9), 2);
        due(20, "length of the outlet", x.length(13), 3);
        due(20, "length on the rim", x.length(0), 0);
        ClaySurvey three = land("zzzzz/zyfyz/zfefz/zydyz/zzazz");
        due(19, "three of rank 1 and one more", three.rank(12), 2);
        due(18, "they gather", three.gathers(22), 10);
        due(19, "the rank behind it", three.rank(22), 2);
        ClaySurvey two = land("zzzzzzz/zxxxxxz/zxcbcxz/zxxaxxz/zzzazzz");
        due(19, "two arms of rank 2", two.rank(16) + " " + two.rank(18), "2 2");
        due(19, "one more where they meet", two.rank(17), 3);
        due(19, "a rank 1 more changes nothing", two.rank(24) + " " + two.rank(31), "3 3");
        due(20, "the longest way", two.length(31), 5);
        due(18, "all inner cells and itself", two.gathers(31), 16);
    }

    private static void sills() {
        ClaySurvey x = land("akc/blz/daz");
        due(21, "a cell and itself", x.sill(4, 4), 110);
        due(21, "both ends", x.sill(0, 1), 100);
        due(21, "the other way round", x.sill(1, 0), 100);
        due(21, "round the hill", x.sill(0, 7), 30);
        due(21, "over the ridge", x.sill(7, 2), 100);
        due(21, "to a peak", x.sill(6, 8), 250);
        for (int far : new int[] {9, NONE, Integer.MIN_VALUE, Integer.MAX_VALUE}) {
            refused(21, "sill(" + far + ", 0)", x, INDEX, () -> x.sill(far, 0));
            refused(21, "sill(0, " + far + ")", x, INDEX, () -> x.sill(0, far));
        }
    }

    private static void lakes() {
        ClaySurvey x = land("kkkkk/kakbk/kakkk/kkfck/kkekk");
        due(22, "lakes", x.lakes(), 3);
        due(23, "lakeOf(6)", x.lakeOf(6), 0);
        due(23, "lakeOf(11)", x.lakeOf(11), 0);
        due(23, "lakeOf(8)", x.lakeOf(8), 1);
        due(23, "lakeOf(18)", x.lakeOf(18), 2);
        due(23, "lakeOf(17), on the sill", x.lakeOf(17), NONE);
        due(24, "levels", x.lakeAt(0, 0) + " " + x.lakeAt(1, 0) + " " + x.lakeAt(2, 0), "100 100 50");
        due(24, "sizes", x.lakeAt(0, 1) + " " + x.lakeAt(1, 1) + " " + x.lakeAt(2, 1), "2 1 1");
        due(24, "depths", x.lakeAt(0, 2) + " " + x.lakeAt(1, 2) + " " + x.lakeAt(2, 2), "200 90 30");
        due(24, "spills", x.lakeAt(0, 3) + " " + x.lakeAt(1, 3) + " " + x.lakeAt(2, 3), "1 3 17");
        for (int far : new int[] {3, NONE, Integer.MIN_VALUE, Integer.MAX_VALUE}) {
            refused(24, "lakeAt(" + far + ", 0)", x, INDEX, () -> x.lakeAt(far, 0));
            refused(24, "lakeAt(" + far + ", -1)", x, INDEX, () -> x.lakeAt(far, -1));
        }
        for (int far : new int[] {4, NONE, Integer.MIN_VALUE, Integer.MAX_VALUE}) {
            refused(24, "lakeAt(0, " + far + ")", x, ARGUMENT, () -> x.lakeAt(0, far));
        }
        for (int far : new int[] {25, NONE, Integer.MIN_VALUE, Integer.MAX_VALUE}) {
            refused(23, "lakeOf(" + far + ")", x, INDEX, () -> x.lakeOf(far));
        }
        due(48, "the share of the lakes", x.lakeShare(), 4.0f / 25.0f);
        x.begin(3, 3);
        due(22, "none on flat land", x.lakes(), 0);
        refused(24, "no lake 0", x, INDEX, () -> x.lakeAt(0, 0));
        due(48, "no share", x.lakeShare(), 0.0f);
        ClaySurvey apart = land("kkkkk/kakak/kkekk/kakak/kkkkk");
        due(22, "corner to corner is no way", apart.lakes(), 5);
    }

    private static void floods() {
        ClaySurvey x = land("fff/faf/fff");
        due(25, "wet(0)", x.wet(0), 0);
        due(25, "at the rim's height", x.wet(50), 0);
        due(25, "above it", x.wet(51), 9);
        due(25, "wet(1000)", x.wet(1000), 9);
        due(26, "a hollow stays dry", x.isWet(50, 4), false);
        due(26, "until the rim is wet", x.isWet(51, 4), true);
        due(26, "on the rim", x.isWet(51, 0), true);
        x.set(4, 60);
        due(25, "a hill", x.wet(60), 8);
        due(26, "its top at its height", x.isWet(60, 4), false);
        due(26, "and above", x.isWet(61, 4), true);
        for (int far : new int[] {1001, NONE, Integer.MIN_VALUE, Integer.MAX_VALUE}) {
            refused(25, "wet(" + far + ")", x, ARGUMENT, () -> x.wet(far));
            refused(26, "isWet(" + far + ", 0)", x, ARGUMENT, () -> x.isWet(far, 0));
            refused(26, "isWet(" + far + ", 9)", x, ARGUMENT, () -> x.isWet(far, 9));
            refused(27, "wallCost(" + far + ", 0)", x, ARGUMENT, () -> x.wallCost(far, 0));
            refused(27, "wallCost(" + far + ", -1)", x, ARGUMENT, () -> x.wallCost(far, -1));
            refused(28, "isDam(" + far + ", 0, 0)", x, ARGUMENT, () -> x.isDam(far, 0, 0));
            refused(28, "isDam(" + far + ", 9, 9)", x, ARGUMENT, () -> x.isDam(far, 9, 9));
        }
        for (int far : new int[] {9, NONE, Integer.MIN_VALUE, Integer.MAX_VALUE}) {
            refused(26, "isWet(0, " + far + ")", x, INDEX, () -> x.isWet(0, far));
            refused(27, "wallCost(0, " + far + ")", x, INDEX, () -> x.wallCost(0, far));
            refused(28, "isDam(0, " + far + ", 0)", x, INDEX, () -> x.isDam(0, far, 0));
            refused(28, "isDam(0, 0, " + far + ")", x, INDEX, () -> x.isDam(0, 0, far));
            refused(28, "isDam(100, 0, " + far + ")", x, INDEX, () -> x.isDam(100, 0, far));
        }
    }

    private static void walls() {
        ClaySurvey x = land("fff/faf/fff");
        due(27, "a place that is dry", x.wallCost(50, 4), 0);
        due(27, "four dams", x.wallCost(60, 4), 40);
        due(28, "which", dams(x, 60, 4), "1 3 5 7");
        due(27, "at the greatest level", x.wallCost(1000, 4), 3800);
        due(28, "no dam for a dry place", dams(x, 50, 4), "");
        due(27, "a dry place on the rim", x.wallCost(50, 0), 0);
        due(28, "and no dam", x.isDam(50, 0, 0), false);
        refused(27, "a wet place on the rim", x, ELEMENT, () -> x.wallCost(51, 0));
        refused(28, "a wet place on the rim", x, ELEMENT, () -> x.isDam(51, 0, 4));
        x.set(1, 59);
        x.set(3, 60);
        x.set(5, 61);
        due(27, "what is above needs no dam", x.wallCost(60, 4), 11);
        due(28, "which", dams(x, 60, 4), "1 7");
        due(27, "one level less", x.wallCost(59, 4), 9);
        due(28, "which", dams(x, 59, 4), "7");
        x.undo();
        due(28, "after a change", dams(x, 60, 4), "1 5 7");
        due(27, "after a change", x.wallCost(61, 4), 2 + 1 + 11 + 11);
        ClaySurvey gate = land("zzzzz/zaaaz/zaaaz/zaaaz/zzyzz");
        due(27, "the gate is the cheapest", gate.wallCost(250, 6), 10);
        due(28, "which", dams(gate, 250, 6), "22");
        due(27, "the gate in its way", gate.wallCost(245, 17), 5);
    }

    private static void wallWithFewestCells() {
        ClaySurvey x = land("zzzzz/zaaaz/zayyz/zyzzz/zyzzz");
        due(27, "one dam of three alike", x.wallCost(250, 6), 10);
        due(28, "the nearest one", dams(x, 250, 6), "16");
        ClaySurvey way = land("zzzzz/zzazz/zzyzz/zzyzz/zzyzz");
        due(27, "a way of gates alike", way.wallCost(250, 7), 10);
        due(28, "the one that leaves the fewest cells", dams(way, 250, 7), "12");
        ClaySurvey wide = land("zzzzz/zaaaz/zzyzz/zzyzz/zzyzz");
        due(28, "cells that come to the place anyway count not", dams(wide, 250, 6), "12");
        ClaySurvey far = land("zzzzz/zzazz/zzwzz/zzxzz/zzyzz");
        due(27, "the farther one costs less", far.wallCost(250, 7), 10);
        due(28, "and leaves more cells", dams(far, 250, 7), "22");
    }

    /** Lands where flow that was sent must be led another way, and one cell's part of it be taken back. */
    private static void wallsInWideLand() {
        int[][] cases = {{8, 8, 32337045, 4, 3, 37, 4}, {7, 8, 988922067, 50, 35, 29, 47},
            {10, 6, 538572820, 500, 402, 25, 1188}, {10, 9, 412131914, 50, 44, 23, 75},
            {9, 7, 300450050, 500, 503, 31, 1111}};
        for (int[] one : cases) {
            ClaySurvey x = new ClaySurvey();
            x.begin(one[0], one[1]);
            x.scatter(one[2], one[3]);
            due(27, "a wall in wide land, with the seed " + one[2], x.wallCost(one[4], one[5]), one[6]);
        }
    }

    private static void names() {
        ClaySurvey x = new ClaySurvey();
        int[][] cases = {{40, 0, 0}, {40, 60, 0}, {100, 0, 0}, {39, 61, 3}, {20, 80, 1}, {0, 80, 1}, {0, 100, 1},
            {15, 0, 2}, {0, 15, 2}, {0, 0, 2}, {16, 0, 5}, {27, 0, 3}, {27, 73, 3}, {26, 0, 5}, {26, 50, 4},
            {0, 50, 4}, {21, 79, 4}, {0, 79, 4}, {0, 48, 5}, {0, 49, 6}, {26, 22, 5}, {26, 23, 6}, {26, 49, 6},
            {39, 0, 3}, {10, 38, 5}};
        for (int[] one : cases) {
            due(29, "nameOf(" + one[0] + ", " + one[1] + ")", x.nameOf(one[0], one[1]), one[2]);
        }
        int[][] far = {{-1, 0}, {101, 0}, {0, -1}, {0, 101}, {60, 41}, {100, 1}, {Integer.MAX_VALUE, Integer.MAX_VALUE},
            {Integer.MIN_VALUE, Integer.MIN_VALUE}, {0, Integer.MAX_VALUE}, {-1, 101}};
        for (int[] one : far) {
            refused(29, "nameOf(" + one[0] + ", " + one[1] + ")", x, ARGUMENT, () -> x.nameOf(one[0], one[1]));
        }
    }

    private static void profilesAndLayers() {
        ClaySurvey x = new ClaySurvey();
        for (int number = 0; number < 6; number++) {
            due(30, "profile", x.profile(), number);
            due(30, "its layer", x.layerAt(number, 0, 0) + " " + x.layerAt(number, 0, 1) + " "
                    + x.layerAt(number, 0, 2) + " " + x.layerAt(number, 0, 3) + " " + x.layerAt(number, 0, 4),
                    "1 100 0 0 0");
        }
        refused(30, "a seventh", x, STATE, x::profile);
        due(31, "layer", x.layer(5, 50, 0, 80), 2);
        due(31, "layer", x.layer(5, 1, 0, 0), 3);
        due(31, "layer", x.layer(5, 2, 30, 30), 4);
        due(31, "layer", x.layer(5, 3, 10, 50), 5);
        refused(31, "a sixth", x, STATE, () -> x.layer(5, 1, 0, 0));
        refused(31, "a sixth that is wrong", x, ARGUMENT, () -> x.layer(5, 0, 0, 0));
        due(32, "layer 3", x.layerAt(5, 3, 0) + " " + x.layerAt(5, 3, 1) + " " + x.layerAt(5, 3, 2) + " "
                + x.layerAt(5, 3, 3) + " " + x.layerAt(5, 3, 4), "2 30 30 40 3");
        due(33, "holds", x.holds(5), 4 + 150 + 1 + 8 + 9);
        due(33, "holds of the first", x.holds(0), 4);
        x.layer(1, 1, 0, 48);
        x.layer(1, 10, 20, 40);
        due(33, "holds of sandy loam and loam", x.holds(1), 4 + 2 + 30);
        for (int far : new int[] {6, NONE, Integer.MIN_VALUE, Integer.MAX_VALUE}) {
            refused(31, "layer(" + far + ", ..)", x, INDEX, () -> x.layer(far, 1, 0, 0));
            refused(31, "layer(" + far + ", 0, ..)", x, INDEX, () -> x.layer(far, 0, 0, 0));
            refused(32, "layerAt(" + far + ", 0, 0)", x, INDEX, () -> x.layerAt(far, 0, 0));
            refused(32, "layerAt(0, " + far + ", 0)", x, INDEX, () -> x.layerAt(0, far, 0));
            refused(32, "layerAt(0, " + far + ", 9)", x, INDEX, () -> x.layerAt(0, far, 9));
            refused(32, "layerAt(0, 0, " + far + ")", x, ARGUMENT, () -> x.layerAt(0, 0, far));
            refused(33, "holds(" + far + ")", x, INDEX, () -> x.holds(far));
            refused(34, "mixed(" + far + ", 0)", x, INDEX, () -> x.mixed(far, 0));
            refused(34, "mixed(" + far + ", 9)", x, INDEX, () -> x.mixed(far, 9));
            refused(34, "mixed(0, " + far + ")", x, ARGUMENT, () -> x.mixed(0, far));
        }
        refused(32, "layerAt(0, 1, 0)", x, INDEX, () -> x.layerAt(0, 1, 0));
        refused(32, "layerAt(0, 0, 5)", x, ARGUMENT, () -> x.layerAt(0, 0, 5));
        refused(34, "mixed(0, 3)", x, ARGUMENT, () -> x.mixed(0, 3));
        refused(31, "thickness 0", x, ARGUMENT, () -> x.layer(0, 0, 0, 0));
        refused(31, "thickness 51", x, ARGUMENT, () -> x.layer(0, 51, 0, 0));
        refused(31, "clay 101", x, ARGUMENT, () -> x.layer(0, 1, 101, 0));
        refused(31, "clay -1", x, ARGUMENT, () -> x.layer(0, 1, -1, 0));
        refused(31, "silt -1", x, ARGUMENT, () -> x.layer(0, 1, 0, -1));
        refused(31, "silt and clay of 101", x, ARGUMENT, () -> x.layer(0, 1, 50, 51));
        ClaySurvey few = new ClaySurvey();
        few.profile();
        refused(31, "a profile that is not there", few, INDEX, () -> few.layer(1, 1, 0, 0));
    }

    private static String mixed(int... layers) {
        ClaySurvey x = new ClaySurvey();
        x.profile();
        for (int at = 0; at + 2 < layers.length; at += 3) {
            x.layer(0, layers[at], layers[at + 1], layers[at + 2]);
        }
        return x.mixed(0, 0) + " " + x.mixed(0, 1) + " " + x.mixed(0, 2);
    }

    private static void mixedShares() {
        due(34, "of clay alone", mixed(), "1000 0 0");
        due(34, "of one more and three", mixed(3, 0, 0), "250 0 750");
        due(34, "by the thickness", mixed(4, 0, 50), "200 400 400");
        due(34, "three alike: the first one has what lacks", mixed(1, 0, 100, 1, 0, 0), "334 333 333");
        due(34, "two alike that lost most", mixed(1, 0, 50, 1, 0, 50), "334 333 333");
        due(34, "the second lost most", mixed(5, 1, 58), "175 483 342");
        due(34, "silt and sand have one each", mixed(2, 1, 30), "340 200 460");
        due(34, "silt and sand lost more than clay", mixed(6, 1, 49), "151 420 429");
    }

    private static void grounds() {
        ClaySurvey x = land("zzz/zaz/zzz");
        x.profile();
        x.profile();
        due(35, "no ground before", x.ground(4, 1), NONE);
        due(36, "groundOf", x.groundOf(4), 1);
        due(36, "groundOf another", x.groundOf(3), NONE);
        due(35, "the ground before", x.ground(4, 0), 1);
        due(31, "a layer for the one that is no ground now", x.layer(1, 1, 0, 0), 2);
        refused(31, "a layer for a ground", x, STATE, () -> x.layer(0, 1, 0, 0));
        refused(31, "a layer for a ground, wrong", x, ARGUMENT, () -> x.layer(0, 1, 100, 1));
        due(35, "none again", x.ground(4, NONE), 0);
        due(35, "none before", x.ground(4, 0), NONE);
        for (int far : new int[] {9, NONE, Integer.MIN_VALUE, Integer.MAX_VALUE}) {
            refused(35, "ground(" + far + ", 0)", x, INDEX, () -> x.ground(far, 0));
            refused(36, "groundOf(" + far + ")", x, INDEX, () -> x.groundOf(far));
        }
        for (int far : new int[] {2, -2, Integer.MIN_VALUE, Integer.MAX_VALUE}) {
            refused(35, "ground(0, " + far + ")", x, INDEX, () -> x.ground(0, far));
        }
        x.pour(4, 5);
        due(35, "water that stands does not matter", x.ground(4, 0), 0);
        x.step(1);
        refused(35, "water in the ground", x, STATE, () -> x.ground(4, 1));
        refused(35, "the same with water in it", x, STATE, () -> x.ground(4, 0));
        refused(35, "none with water in it", x, STATE, () -> x.ground(4, NONE));
        refused(35, "no such profile, with water in it", x, INDEX, () -> x.ground(4, 2));
        x.sun(100);
        due(35, "when dry again", x.ground(4, NONE), 0);
    }

    private static void rainAndPour() {
        ClaySurvey x = new ClaySurvey();
        x.begin(2, 3);
        due(37, "rain(1)", x.rain(1), 6L);
        due(37, "rain(1000)", x.rain(1000), 6006L);
        due(41, "what stands", x.water(5, false), 1001);
        due(41, "in the ground", x.water(5, true), 0);
        due(38, "pour(2, 100000)", x.pour(2, 100000), 106006L);
        due(41, "what stands", x.water(2, false), 101001);
        due(38, "pour(0, 1)", x.pour(0, 1), 106007L);
        due(42, "what came", x.total(0), 106007L);
        due(42, "what stands", x.total(1), 106007L);
        for (int far : new int[] {0, 1001, NONE, Integer.MIN_VALUE, Integer.MAX_VALUE}) {
            refused(37, "rain(" + far + ")", x, ARGUMENT, () -> x.rain(far));
        }
        for (int far : new int[] {0, 100001, NONE, Integer.MIN_VALUE, Integer.MAX_VALUE}) {
            refused(38, "pour(0, " + far + ")", x, ARGUMENT, () -> x.pour(0, far));
        }
        for (int far : new int[] {6, NONE, Integer.MIN_VALUE, Integer.MAX_VALUE}) {
            refused(38, "pour(" + far + ", 1)", x, INDEX, () -> x.pour(far, 1));
            refused(38, "pour(" + far + ", 0)", x, INDEX, () -> x.pour(far, 0));
            refused(41, "water(" + far + ", ..)", x, INDEX, () -> x.water(far, true));
            refused(42, "total(" + far + ")", x, ARGUMENT, () -> x.total(far));
        }
        due(39, "a step empties the rim", x.step(1), 1);
        due(42, "all ran out", x.total(4), 106007L);
        due(42, "nothing stands", x.total(1), 0L);
        due(39, "nothing moves then", x.step(50), 0);
        for (int far : new int[] {0, 51, NONE, Integer.MIN_VALUE, Integer.MAX_VALUE}) {
            refused(39, "step(" + far + ")", x, ARGUMENT, () -> x.step(far));
        }
    }

    private static String waters(ClaySurvey x, int... cells) {
        StringBuilder all = new StringBuilder();
        for (int cell : cells) {
            all.append(x.water(cell, false)).append(' ');
        }
        return all.toString().trim();
    }

    private static void flowing() {
        ClaySurvey x = land("zzzzz/zaabz/zzzzz");
        x.pour(6, 5);
        due(39, "half the difference, rounded up, and on in its turn", x.step(1) + " " + waters(x, 6, 7, 8), "1 3 2 0");
        ClaySurvey even = land("zzzz/zaaz/zzzz");
        even.pour(5, 4);
        due(39, "half of 4", even.step(1) + " " + waters(even, 5, 6), "1 2 2");
        due(39, "level water rests", even.step(3), 0);
        ClaySurvey there = land("zzzz/zaaz/zzzz");
        there.pour(5, 1);
        due(39, "one unit goes there and back", there.step(1) + " " + waters(there, 5, 6), "1 1 0");
        due(39, "and it moved in each step", there.step(50), 50);
        ClaySurvey back = land("zzzz/zaaz/zzzz");
        back.pour(6, 1);
        due(39, "the cell that had its turn keeps it", back.step(1) + " " + waters(back, 5, 6), "1 0 1");
        ClaySurvey steep = land("zzzz/zyaz/zzzz");
        steep.pour(5, 7);
        due(39, "all, if it is less", steep.step(1) + " " + waters(steep, 5, 6), "1 0 7");
        ClaySurvey sides = land("aaaaa/zzzzz/zzyzz/zzzzz/zzzzz");
        sides.slope(50, 0, 0);
        sides.set(12, 100);
        sides.pour(12, 10);
        due(39, "the first one in their order", sides.step(1) + " " + waters(sides, 7, 11, 12, 13, 17), "1 5 0 0 0 0");
        due(39, "half of it on to the rim, where it runs out", sides.total(4), 5L);
        ClaySurvey low = land("zzzzz/zzzzz/zzkzz/zzzzz/zzzzz");
        low.set(11, 50);
        low.set(13, 40);
        low.pour(12, 10);
        due(39, "the lowest neighbour", low.step(1) + " " + waters(low, 11, 12, 13), "1 0 0 10");
        ClaySurvey alone = new ClaySurvey();
        alone.pour(0, 3);
        due(39, "a land of one cell", alone.step(50) + " " + alone.total(4), "1 3");
    }

    private static void soaking() {
        ClaySurvey x = land("zzzz/zaaz/zzzz");
        x.profile();
        x.layer(0, 2, 0, 0);
        x.ground(5, 0);
        x.ground(6, 0);
        x.ground(0, 0);
        x.rain(20);
        due(33, "what it holds", x.holds(0), 6);
        x.step(1);
        due(39, "the uppermost soil takes in", x.water(5, true), 1);
        due(39, "the rim takes in nothing", x.water(0, true), 0);
        x.step(2);
        due(39, "up to the half nothing goes below", x.water(5, true) + " " + x.total(5), "3 0");
        due(39, "a step", x.step(1), 1);
        due(39, "above the half it goes below", x.water(5, true) + " " + x.total(5), "3 2");
        due(42, "what came is somewhere", x.total(0), x.total(1) + x.total(2) + x.total(3) + x.total(4) + x.total(5));
        ClaySurvey clay = land("zzz/zaz/zzz");
        clay.profile();
        clay.layer(0, 1, 100, 0);
        clay.begin(3, 3);
        clay.slope(500, 0, 0);
        clay.set(4, 0);
        clay.ground(4, 0);
        clay.pour(4, 2);
        clay.step(1);
        due(39, "what stands there, at most", clay.step(1) + " " + clay.water(4, true) + " " + clay.step(1), "1 2 0");
        ClaySurvey odd = land("zzz/zaz/zzz");
        odd.profile();
        odd.layer(0, 1, 0, 80);
        odd.ground(4, 0);
        odd.pour(4, 100);
        odd.step(4);
        due(39, "half of 7, rounded up", odd.water(4, true) + " " + odd.total(5), "4 0");
        odd.step(1);
        due(39, "and not more", odd.water(4, true) + " " + odd.total(5), "4 1");
        odd.sun(100);
        due(39, "nothing moves at half", odd.step(9), 0);
    }

    private static void sunAndTotals() {
        ClaySurvey x = land("zzz/zaz/zzz");
        x.profile();
        x.ground(4, 0);
        x.pour(4, 4);
        x.step(2);
        x.pour(0, 1);
        due(40, "sun(1): from those that stand first", x.sun(1), 2L);
        due(41, "what stands", x.water(4, false) + " " + x.water(4, true), "1 2");
        due(40, "sun(2): and those in the ground", x.sun(2), 2L);
        due(41, "what is left", x.water(4, false) + " " + x.water(4, true), "0 1");
        due(40, "sun(100): or all", x.sun(100), 1L);
        due(40, "nothing left", x.sun(100), 0L);
        due(42, "what went into the air", x.total(3), 5L);
        due(42, "what is in the ground", x.total(2), 0L);
        for (int far : new int[] {0, 101, NONE, Integer.MIN_VALUE, Integer.MAX_VALUE}) {
            refused(40, "sun(" + far + ")", x, ARGUMENT, () -> x.sun(far));
        }
        refused(42, "total(6)", x, ARGUMENT, () -> x.total(6));
        refused(42, "total(-1)", x, ARGUMENT, () -> x.total(-1));
    }

    private static void maps() {
        ClaySurvey x = land("jjjj/jbbj/jbcj/jejj");
        due(43, "the length", x.write(0), 19);
        due(43, "drains", page(x, 0), "oooo/oSWo/oSWo/oooo");
        due(43, "ranks", page(x, 1), "1111/1111/1211/1211");
        due(43, "lakes", page(x, 2), "..../.aa./.aa./....");
        due(44, "pageAt(4)", x.pageAt(4), (int) '/');
        for (int far : new int[] {19, NONE, Integer.MIN_VALUE, Integer.MAX_VALUE}) {
            refused(44, "pageAt(" + far + ")", x, INDEX, () -> x.pageAt(far));
        }
        for (int far : new int[] {3, NONE, Integer.MIN_VALUE, Integer.MAX_VALUE}) {
            refused(43, "write(" + far + ")", x, ARGUMENT, () -> x.write(far));
        }
        x.begin(1, 1);
        due(44, "the page stays", x.pageAt(18), (int) '.');
        due(43, "a shorter map takes its place", page(x, 0), "o");
        refused(44, "behind it", x, INDEX, () -> x.pageAt(1));
        x.begin(10, 10);
        due(43, "the longest page", x.write(0), 109);
        x.slope(500, 0, 0);
        for (int cell = 0; cell < 100; cell++) {
            if ((cell / 10 + cell % 10) % 2 == 1) {
                x.set(cell, 0);
            }
        }
        for (int side = 0; side < 10; side++) {
            x.set(side, 500);
            x.set(90 + side, 500);
            x.set(10 * side, 500);
            x.set(10 * side + 9, 500);
        }
        due(22, "the most lakes", x.lakes(), 32);
        String last = page(x, 2);
        due(43, "z for the lake 25 and all behind it", last.replace(".", "").replace("/", ""),
                "abcdefghijklmnopqrstuvwxyzzzzzzz");
    }

    private static void digestsAndMeans() {
        ClaySurvey x = new ClaySurvey();
        due(45, "of a new object", x.digest(), 7L * 961 - 1);
        x.begin(3, 3);
        x.slope(100, 3, 7);
        long sum = 7;
        for (int cell = 0; cell < 9; cell++) {
            sum = (sum * 31 + x.level(cell)) * 31 + x.drain(cell);
        }
        due(45, "of a slope", x.digest(), sum);
        due(47, "the mean of a slope", x.meanHeight(), 110.0);
        x.set(8, 121);
        due(47, "the mean that is no whole number", x.meanHeight(), 991.0 / 9.0);
        due(48, "no lakes", x.lakeShare(), 0.0f);
        ClaySurvey lake = land("fff/faf/fff");
        due(48, "one of nine", lake.lakeShare(), 1.0f / 9.0f);
        ClaySurvey one = new ClaySurvey();
        due(47, "the mean of a new object", one.meanHeight(), 0.0);
        due(48, "the share of a new object", one.lakeShare(), 0.0f);
    }

    private static void theorem() {
        ClaySurvey x = new ClaySurvey();
        for (int seed = 0; seed < 300; seed++) {
            x.begin(1 + seed % 10, 1 + seed / 10 % 10);
            x.scatter(seed, 1 + seed % 37);
            for (int level = 0; level < 40; level += 7) {
                due(46, "errors(" + level + ") with the seed " + seed, x.errors(level), 0);
            }
            x.rain(3);
            x.step(2);
            due(46, "errors with water", x.errors(1000), 0);
            x.sun(100);
        }
        x.begin(3, 3);
        for (int far : new int[] {1001, NONE, Integer.MIN_VALUE, Integer.MAX_VALUE}) {
            refused(46, "errors(" + far + ")", x, ARGUMENT, () -> x.errors(far));
        }
        String before = all(x);
        due(46, "errors(1000)", x.errors(1000), 0);
        due(46, "nothing changes", all(x), before);
        due(46, "and what can be undone stays", x.undo(), 7);
    }
}
