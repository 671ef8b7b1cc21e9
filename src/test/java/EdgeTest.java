import java.math.BigInteger;
import java.util.ArrayList;
import java.util.List;
import java.util.StringJoiner;

/**
 * Each sentence of the document that names a boundary: just within and just beyond each range, the least and the
 * greatest, the empty and the full, and for each exception the call that is refused, what is told first where several
 * apply, and that nothing has changed by it (Script looks at that for each refused call).
 */
public final class EdgeTest {
    private static final String TEN = "abcdefghij";
    /** The greatest land as a text. */
    private static final String GREATEST = (TEN + "/").repeat(9) + TEN;
    /** A hollow of the height 0 within a rim of the height 250. */
    private static final String HOLLOW = "land(zzz/zaz/zzz)=9 ";
    /** The hollow with a ground that has one unit, when nothing stands any more. */
    private static final String SOAKED = HOLLOW + "profile()=0 profile()=1 ground(4,0)=-1 pour(4,1)=1 step(1)=1 ";

    private static int wrong;
    private static int edges;

    public static void main(String[] args) {
        aNewObject();
        type();
        clearText();
        firstErrorOfKind1();
        firstErrorOfKind2();
        firstErrorOfKind3();
        firstOfSeveralErrors();
        read();
        begin();
        slope();
        scatter();
        set();
        undo();
        undoOfSizes();
        rowsAndColumns();
        cellsOfEachPromise();
        levelsAndDrains();
        whatIsAskedAfterEachChange();
        catchments();
        sills();
        lakes();
        lakeAt();
        wet();
        walls();
        wallsOfSeveralLeastCosts();
        names();
        profiles();
        layers();
        layerAt();
        holdsAndMixed();
        grounds();
        rainAndPour();
        steps();
        turnsOfAStep();
        runningOutAndSoaking();
        sun();
        waterAndTotals();
        maps();
        page();
        digests();
        errors();
        means();
        theLastCall();
        System.out.println(wrong == 0 ? "all " + edges + " edges hold" : wrong + " edges do not hold");
        System.exit(wrong == 0 ? 0 : 1);
    }

    private static void edge(int promise, String sentence, String words) {
        edges++;
        for (String fault : Script.faults(words)) {
            wrong++;
            System.out.println("promise " + promise + ": " + sentence + ": " + fault + ", in " + words);
        }
    }

    /** The call, with each number for its ?, is refused just beyond the range and far beyond it, and not within. */
    private static void range(int promise, String before, String call, long least, long most, char why) {
        edge(promise, "the least is within", before + " " + call.replace("?", "" + least));
        edge(promise, "the greatest is within", before + " " + call.replace("?", "" + most));
        List<String> beyond = new ArrayList<>(List.of("MIN", "" + (least - 1)));
        if (most < Integer.MAX_VALUE) {
            beyond.add("" + (most + 1));
            beyond.add("MAX");
        }
        StringJoiner refused = new StringJoiner(" ");
        for (String number : beyond) {
            refused.add(call.replace("?", number) + "!" + why);
        }
        edge(promise, "what is beyond is refused", before + " " + refused);
    }

    private static void aNewObject() {
        edge(1, "a land of one cell with the height 0", "rows()=1 columns()=1 height(0)=0 height(1)!I level(0)=0 "
                + "drain(0)=-1 outlet(0)=0 gathers(0)=1 rank(0)=1 length(0)=0 lakes()=0 lakeOf(0)=-1 sill(0,0)=0");
        edge(1, "without profiles", "holds(0)!I layer(0,1,0,0)!I layerAt(0,0,0)!I mixed(0,0)!I ground(0,0)!I "
                + "groundOf(0)=-1");
        edge(1, "without water", "totals()=0,0,0,0,0,0 water(0,false)=0 water(0,true)=0 step(50)=0 sun(100)=0");
        edge(1, "with an empty text", "type(0)=0 clearText()=0 errorKind()=1 errorPlace()=0 read()!S");
        edge(1, "with an empty page", "pageAt(0)!I");
        edge(1, "without changes", "undo()=-1 undo()=-1");
    }

    private static void type() {
        edge(2, "the highest one first", "type(0x61622F6364)=5 read()=4 all(height)=0,10,20,30");
        edge(2, "eight bytes at most", "type(0x6162636465666768)=8 read()=8 all(height)=0,10,20,30,40,50,60,70");
        edge(2, "without those that are 0, wherever they are", "type(0x0061_0000_2F00_6200)=3 read()=2 rows()=2 "
                + "all(height)=0,10");
        edge(2, "of 0 nothing is put", "type(0)=0 type(0x61)=1 type(0)=1");
        edge(2, "bytes from 1", "type(1)=1 errorKind()=1 errorPlace()=0");
        edge(2, "to 255", "type(0x61FF)=2 errorKind()=1 errorPlace()=1");
        edge(2, "a number below 0 is taken as its bytes", "type(-1)=8 type(MIN)=9 type(MAX)=17 type(-256)=24");
        edge(2, "the highest byte of a number below 0", "type(0x6100_0000_0000_0000)=1 "
                + "type(0xE100_0000_0000_0000)=2 errorPlace()=1");
        edge(2, "up to 200 bytes", "25*type(0x6161616161616161) type(0)=200");
        edge(2, "from 199 to 200", "24*type(0x6161616161616161) type(0x61616161616161)=199 type(0x62)=200");
        edge(2, "from 192 to 200", "24*type(0x6161616161616161) type(0)=192 type(-1)=200");
        edge(2, "eight bytes with a 0 are seven", "24*type(0x6161616161616161) type(0x62)=193 "
                + "type(0x6262626200626262)=200");
        edge(2, "one byte beyond 200", "25*type(0x6161616161616161) type(1)!S type(255)!S type(MIN)!S type(0)=200");
        edge(2, "two bytes for the last place", "24*type(0x6161616161616161) type(0x61616161616161)=199 "
                + "type(0x6262)!S type(0x62)=200 type(0x62)!S");
        edge(2, "eight bytes for seven places", "24*type(0x6161616161616161) type(0x61)=193 type(-1)!S "
                + "type(0x62626262626262)=200");
        edge(2, "of a refused number no byte is put", "3*text(abcdefghi/) 3*text(abcdefghi/) 14*text(abcdefghi/) "
                + "type(0x61)!S clearText()=200 type(0x61)=1 read()=1");
    }

    private static void clearText() {
        edge(3, "of the empty text", "clearText()=0 clearText()=0");
        edge(3, "of one byte", "type(255)=1 clearText()=1 clearText()=0 type(0)=0");
        edge(3, "of the full text", "25*type(-1) clearText()=200 clearText()=0 type(-1)=8");
        edge(3, "the land stays", "land(zz/zz)=4 clearText()=5 all(height)=250,250,250,250 read()!S");
        edge(3, "and what the text was is gone", "text(abc/abc)=7 clearText()=7 text(z)=1 read()=1 height(0)=250");
    }

    private static void error(String sentence, String text, int kind, int place) {
        edge(4, sentence, "text(" + text + ") errorKind()=" + kind + " errorPlace()=" + place);
        edge(5, sentence + ", the place asked first", "text(" + text + ") errorPlace()=" + place);
        edge(6, sentence + ", read", "text(" + text + ") " + (kind == 0 ? "read()=" + text.replace("/", "").length()
                : "read()!S type(0)=" + text.length()));
    }

    private static void firstErrorOfKind1() {
        edge(4, "the empty text ends where a row must begin", "errorKind()=1 errorPlace()=0");
        error("no error in one letter", "a", 0, -1);
        error("z is the last letter", "z", 0, -1);
        error("the byte before a", "`", 1, 0);
        error("the byte behind z", "{", 1, 0);
        error("the byte before /", "a.", 1, 1);
        error("the byte behind /", "a0", 1, 1);
        error("great letters are none", "aA", 1, 1);
        error("the great Z", "zZ", 1, 1);
        error("the byte 1", "ab\u0001", 1, 2);
        error("the byte 255", "ab/\u00ff", 1, 3);
        error("the byte 225, which is a but for its highest bit", "\u00e1", 1, 0);
        error("the byte 175, which is / but for its highest bit", "a\u00afa", 1, 1);
        error("a / where the first row must begin", "/", 1, 0);
        error("a / where the first row must begin, and a row behind it", "/ab", 1, 0);
        error("a / where the second row must begin", "ab//ab", 1, 3);
        error("the text ends where the second row must begin", "ab/", 1, 3);
        error("the text ends where the tenth row must begin", "a/".repeat(9), 1, 18);
        error("a / where the tenth row must begin", "a/".repeat(9) + "/", 1, 18);
        error("200 times /", "/".repeat(200), 1, 0);
        edge(5, "no error any more, and then one", "text(a/)=2 errorPlace()=2 type(0x62)=3 errorPlace()=-1 "
                + "errorKind()=0 type(0x2F)=4 errorKind()=1 errorPlace()=4");
    }

    private static void firstErrorOfKind2() {
        error("ten letters", TEN, 0, -1);
        error("the 11th letter", TEN + "k", 2, 10);
        error("the 11th letter of the second row", TEN + "/" + TEN + "k", 2, 21);
        error("the 11th letter of the tenth row", GREATEST + "k", 2, 109);
        error("200 letters", "z".repeat(200), 2, 10);
        error("ten rows of one letter", "a" + "/a".repeat(9), 0, -1);
        error("the / behind the tenth row, and a row", "a" + "/a".repeat(10), 2, 19);
        error("the / behind the tenth row, and nothing", "a" + "/a".repeat(9) + "/", 2, 19);
        error("the / behind the tenth row, and another /", "a" + "/a".repeat(9) + "//", 2, 19);
        error("ten rows of ten letters", GREATEST, 0, -1);
        error("the / behind the tenth row of ten letters", GREATEST + "/", 2, 109);
    }

    private static void firstErrorOfKind3() {
        error("a row of two is no longer than one of two", "ab/cd", 0, -1);
        error("the first letter that is too many", "ab/cde", 3, 5);
        error("the first of several that are too many", "ab/cdefghi", 3, 5);
        error("in the third row", "ab/cd/efg", 3, 8);
        error("a letter lacks at the end", "ab/c", 3, 4);
        error("a letter lacks at the /", "ab/c/de", 3, 4);
        error("nine of ten letters", TEN + "/abcdefghi", 3, 20);
        error("two of one letter", "a/ab", 3, 3);
        error("ten of nine letters", "abcdefghi/" + TEN, 3, 19);
        error("the tenth row is shorter", "ab" + "/ab".repeat(8) + "/a", 3, 28);
        error("the tenth row is longer", "ab" + "/ab".repeat(8) + "/abc", 3, 29);
    }

    private static void firstOfSeveralErrors() {
        error("kinds 1 and 2 at one place: a / where the tenth row must begin", "ab" + "/ab".repeat(8) + "//", 1, 27);
        error("kinds 1 and 3 at one place: a / where a row must begin", "ab//", 1, 3);
        error("kinds 1 and 3 at one place: the end where a row must begin", "ab/ab/", 1, 6);
        error("kinds 1 and 3 at one place: no letter where one lacks", "ab/a-", 1, 4);
        error("no letter where one is too many", "ab/ab-", 1, 5);
        error("no letter in the 11th place", TEN + "-", 1, 10);
        error("kinds 2 and 3 at one place: the 11th letter", TEN + "/" + TEN + "k/a", 2, 21);
        error("kinds 2 and 3 at one place: the / behind a tenth row that is shorter",
                "ab" + "/ab".repeat(8) + "/a/", 2, 28);
        error("kind 3 before kind 1", "ab/a/-", 3, 4);
        error("kind 3 before kind 2", "ab/" + TEN + "k", 3, 5);
        error("kind 2 before kind 1", TEN + "k-", 2, 10);
        error("kind 2 before kind 3", TEN + "k/a", 2, 10);
        error("kind 1 before kind 2", "-" + TEN + "k", 1, 0);
        error("kind 1 before kind 3", "a-/abc", 1, 1);
    }

    private static void read() {
        edge(6, "the least land", "text(a)=1 read()=1 rows()=1 columns()=1 height(0)=0");
        edge(6, "the greatest land", "text(" + GREATEST + ")=109 read()=100 rows()=10 columns()=10 height(0)=0 "
                + "height(9)=90 height(90)=0 height(99)=90 height(100)!I");
        edge(6, "one row", "text(" + TEN + ")=10 read()=10 rows()=1 columns()=10 "
                + "all(height)=0,10,20,30,40,50,60,70,80,90");
        edge(6, "one column", "text(a/b/c/d/e/f/g/h/i/j)=19 read()=10 rows()=10 columns()=1 "
                + "all(height)=0,10,20,30,40,50,60,70,80,90");
        edge(6, "a is the height 0 and z 250", "text(abyz)=4 read()=4 all(height)=0,10,240,250");
        edge(6, "the text stays", "text(ab/cd)=5 read()=4 type(0)=5 read()=4 errorKind()=0 type(0x65)=6 read()!S");
        edge(6, "no cell has a ground then", "land(ab/cd)=4 profile()=0 ground(0,0)=-1 ground(3,0)=-1 read()=4 "
                + "all(groundOf)=-1,-1,-1,-1 layer(0,1,0,0)=2");
        edge(6, "a change", "set(0,7) text(ab/cd)=5 read()=4 undo()=1 rows()=1 columns()=1 height(0)=7 undo()=0");
        edge(6, "refused as long as the text has an error", "set(0,7) read()!S text(ab/)=3 read()!S type(0x61)=4 "
                + "read()!S type(0x61)=5 read()=4");
        edge(6, "refused as long as water stands", HOLLOW + "pour(4,2)=2 read()!S sun(1)=1 read()!S sun(1)=1 read()=9");
        edge(6, "refused as long as water stands on the last cell", "land(" + GREATEST + ")=100 pour(99,1)=1 read()!S "
                + "step(1)=1 read()=100");
        edge(6, "refused as long as water is in the ground", SOAKED + "stands()=0,0,0,0,0,0,0,0,0 "
                + "soaked()=0,0,0,0,1,0,0,0,0 read()!S sun(1)=1 read()=9");
        edge(6, "an error and water", "pour(0,1)=1 read()!S sun(1)=1 read()!S");
    }

    private static void begin() {
        range(7, "", "begin(?,1)", 1, 10, 'A');
        range(7, "", "begin(1,?)", 1, 10, 'A');
        range(7, "begin(4,4)=16 slope(9,1,1)=15", "begin(?,10)", 1, 10, 'A');
        range(7, "begin(4,4)=16 slope(9,1,1)=15", "begin(10,?)", 1, 10, 'A');
        edge(7, "both out of range", "begin(0,0)!A begin(11,11)!A begin(-2,-5)!A begin(MIN,MIN)!A begin(MAX,MAX)!A");
        edge(7, "the least land", "begin(2,2)=4 begin(1,1)=1 height(0)=0 height(1)!I");
        edge(7, "the greatest land", "begin(10,10)=100 height(99)=0 height(100)!I");
        edge(7, "one row, one column", "begin(1,10)=10 rows()=1 columns()=10 begin(10,1)=10 rows()=10 columns()=1");
        edge(7, "the height 0 in each cell, of the same size too", "land(zz/zz)=4 begin(2,2)=4 all(height)=0,0,0,0");
        edge(7, "no cell has a ground then, of the same size too", "profile()=0 begin(2,2)=4 ground(0,0)=-1 "
                + "ground(3,0)=-1 begin(2,2)=4 all(groundOf)=-1,-1,-1,-1");
        edge(7, "a change", "set(0,3)=0 begin(2,3)=6 undo()=1 rows()=1 columns()=1 height(0)=3");
        edge(7, "a change, though nothing changes", "begin(1,1)=1 undo()=0 undo()=-1");
        edge(7, "refused as long as water stands", "pour(0,1)=1 begin(1,1)!S begin(10,10)!S sun(1)=1 begin(10,10)=100");
        edge(7, "refused as long as water is in the ground", SOAKED + "begin(3,3)!S begin(1,1)!S sun(1)=1 begin(1,1)=1");
        edge(7, "out of range is told before water", "pour(0,1)=1 begin(0,1)!A begin(1,0)!A begin(11,1)!A begin(1,11)!A");
    }

    private static void slope() {
        range(8, "", "slope(?,0,0)", 0, 999, 'A');
        range(8, "begin(2,1)", "slope(500,?,0)", -99, 99, 'A');
        range(8, "begin(1,2)", "slope(500,0,?)", -99, 99, 'A');
        range(8, "", "slope(0,?,0)", -99, 99, 'A');
        range(8, "", "slope(0,0,?)", -99, 99, 'A');
        edge(8, "on one cell it is the base", "slope(999,99,99)=999 slope(0,-99,-99)=0");
        edge(8, "on one row byRow does not matter", "begin(1,2) slope(0,-99,99)=99 all(height)=0,99");
        edge(8, "on one column byColumn does not matter", "begin(2,1) slope(99,-99,99)=99 all(height)=99,0");
        edge(8, "a height of 999", "begin(10,10) slope(0,99,12)=999 height(0)=0 height(9)=108 height(90)=891 "
                + "height(99)=999");
        edge(8, "a height of 1000", "begin(10,10) slope(5,5,5)=95 slope(1,99,12)!A slope(999,0,1)!A slope(999,1,0)!A");
        edge(8, "a height of 0", "begin(10,10) slope(999,-99,-12)=999 height(0)=999 height(99)=0");
        edge(8, "a height of -1", "begin(10,10) slope(5,5,5)=95 slope(998,-99,-12)!A slope(0,0,-1)!A slope(0,-1,0)!A");
        edge(8, "too great in the first column of the last row", "begin(2,2) slope(989,10,-5)=999 slope(990,10,-5)!A");
        edge(8, "too great in the last column of the first row", "begin(2,2) slope(989,-5,10)=999 slope(990,-5,10)!A");
        edge(8, "too small in the first column of the last row", "begin(2,2) slope(10,-10,99)=109 slope(9,-10,99)!A");
        edge(8, "too small in the last column of the first row", "begin(2,2) slope(10,99,-10)=109 slope(9,99,-10)!A");
        edge(8, "row and column by the number of the cell", "begin(3,4) slope(0,20,1)=43 "
                + "all(height)=0,1,2,3,20,21,22,23,40,41,42,43");
        edge(8, "a change", "begin(1,2) slope(7,0,1)=8 slope(7,0,1)=8 undo()=2 all(height)=7,8 undo()=1 all(height)=0,0");
        edge(8, "not refused with water", "pour(0,5)=5 slope(3,0,0)=3 water(0,false)=5");
    }

    /** What scatter adds, by numbers without an end. */
    private static List<Integer> drawn(long seed, int range, int count) {
        List<Integer> added = new ArrayList<>();
        BigInteger x = BigInteger.valueOf(seed);
        for (int i = 0; i < count; i++) {
            x = x.multiply(BigInteger.valueOf(1103515245)).add(BigInteger.valueOf(12345)).mod(BigInteger.TWO.pow(31));
            added.add(x.divide(BigInteger.valueOf(65536)).mod(BigInteger.valueOf(range)).intValue());
        }
        return added;
    }

    private static void scattered(String sentence, int side, int base, int seed, int range) {
        StringJoiner heights = new StringJoiner(",");
        int sum = 0;
        for (int added : drawn(seed, range, side * side)) {
            heights.add("" + Math.min(999, base + added));
            sum += Math.min(999, base + added);
        }
        edge(9, sentence, "begin(" + side + "," + side + ") slope(" + base + ",0,0) scatter(" + seed + "," + range + ")="
                + sum + " all(height)=" + heights);
    }

    private static void scatter() {
        range(9, "begin(2,2) slope(7,0,0)", "scatter(?,9)", 0, Integer.MAX_VALUE, 'A');
        range(9, "begin(2,2) slope(7,0,0)", "scatter(1,?)", 1, 500, 'A');
        edge(9, "both out of range", "scatter(-1,0)!A scatter(MIN,501)!A scatter(0,MIN)!A");
        scattered("the least seed", 10, 0, 0, 500);
        scattered("the greatest seed, which wraps around", 10, 0, Integer.MAX_VALUE, 500);
        scattered("the greatest seed but one", 2, 0, Integer.MAX_VALUE - 1, 499);
        scattered("numbers that wrap around", 10, 3, 1103515245, 333);
        scattered("the range 1 adds nothing", 3, 5, 12345, 1);
        scattered("the range 2", 10, 5, 99, 2);
        scattered("999 at most", 10, 998, 7, 3);
        scattered("999 at most, however much is added", 3, 999, 7, 500);
        scattered("some above 999 and some not", 10, 750, 4, 500);
        edge(9, "one cell", "scatter(0,500)=0 scatter(1,500)=" + drawn(1, 500, 1).get(0));
        edge(9, "a change, though nothing is added", "set(0,5)=0 scatter(3,1)=5 undo()=1 height(0)=5 undo()=0");
        edge(9, "undone", "begin(1,2) slope(40,0,1)=41 scatter(77,500) undo()=2 all(height)=40,41");
    }

    private static void set() {
        range(10, "", "set(0,?)", 0, 999, 'A');
        range(10, "", "set(?,5)", 0, 0, 'I');
        range(10, "begin(2,3)", "set(?,5)", 0, 5, 'I');
        range(10, "begin(10,10) slope(9,1,1)", "set(?,5)", 0, 99, 'I');
        edge(10, "the height before", "set(0,999)=0 set(0,0)=999 set(0,0)=0");
        edge(10, "the last cell of the greatest land", "begin(10,10) set(99,7)=0 height(99)=7 height(98)=0");
        edge(10, "no such cell is told first", "set(-1,-1)!I set(1,1000)!I set(MAX,MIN)!I set(0,1000)!A set(0,-1)!A");
        edge(10, "a change, though nothing changes", "set(0,0)=0 undo()=0 undo()=-1");
    }

    private static void undo() {
        edge(11, "none without a change", "undo()=-1 undo()=-1 rows()=1 height(0)=0");
        edge(11, "one change", "set(0,1)=0 undo()=0 height(0)=0 undo()=-1 height(0)=0");
        StringBuilder sets = new StringBuilder();
        StringBuilder undos = new StringBuilder();
        for (int height = 1; height <= 8; height++) {
            sets.append("set(0,").append(height).append(") ");
            undos.append("undo()=").append(8 - height).append(" height(0)=").append(8 - height).append(' ');
        }
        edge(11, "eight changes", sets + undos.toString() + "undo()=-1 height(0)=0");
        String later = undos.toString();
        for (int height = 8; height >= 0; height--) {
            later = later.replace("height(0)=" + height + " ", "height(0)=" + (height + 1) + " ");
        }
        edge(11, "of nine changes the latest eight", sets + "set(0,9) " + later + "undo()=-1 height(0)=1");
        edge(11, "of thirty changes the latest eight", "set(0,5) 20*set(0,6) set(0,7) " + sets
                + undos.toString().replace("height(0)=0", "height(0)=7") + "undo()=-1 height(0)=7");
        edge(11, "a refused call is no change", "set(0,1)=0 set(0,1000)!A set(1,0)!I slope(0,100,0)!A scatter(-1,1)!A "
                + "begin(0,0)!A read()!S undo()=0 height(0)=0 undo()=-1");
        edge(11, "what asks or brings water is no change", "type(0x61) profile() ground(0,0) layerAt(0,0,0) rain(1) "
                + "step(1) sun(1) write(0) clearText() errors(9) undo()=-1");
        edge(11, "each change is one", "text(b)=1 begin(1,2) read()=1 slope(4,0,0) scatter(9,1) set(0,8) undo()=4 "
                + "height(0)=4 undo()=3 height(0)=4 undo()=2 height(0)=10 undo()=1 columns()=2 undo()=0 columns()=1");
        edge(11, "the latest one that has not been undone", "set(0,1) set(0,2) undo()=1 set(0,3) undo()=1 height(0)=1 "
                + "undo()=0 height(0)=0 undo()=-1");
        edge(11, "undone and changed, again and again", "set(0,1) 10*undo() 9*set(0,4) undo()=7 undo()=6 set(0,5) "
                + "undo()=6 height(0)=4");
        edge(11, "the heights are what they were then", "land(ab/cd) set(0,99) undo()=1 all(height)=0,10,20,30 "
                + "begin(10,10) undo()=1 rows()=2 columns()=2 all(height)=0,10,20,30");
        edge(11, "levels and drains are what they were then", HOLLOW + "set(1,40) level(4)=40 drain(4)=1 undo()=1 "
                + "level(4)=250 lakes()=1 undo()=0 lakes()=0 rows()=1");
    }

    private static void undoOfSizes() {
        edge(11, "another size: no cell has a ground then", "profile() begin(1,2) ground(0,0) ground(1,0) undo()=0 "
                + "groundOf(0)=-1 begin(1,2) all(groundOf)=-1,-1");
        edge(11, "the same size: the ground stays", "profile() begin(1,2) begin(1,2) ground(1,0) undo()=1 "
                + "all(groundOf)=-1,0 layer(0,1,0,0)!S");
        edge(11, "rows for columns are another size", "profile() begin(2,3) begin(3,2) ground(5,0) undo()=1 rows()=2 "
                + "columns()=3 all(groundOf)=-1,-1,-1,-1,-1,-1");
        edge(11, "refused with water that stands, if the size would become another one",
                "begin(2,2) pour(3,2)=2 undo()!S sun(1)=1 undo()!S sun(1)=1 undo()=0 rows()=1");
        edge(11, "refused, if only the rows would become others", "begin(1,2) begin(2,2) pour(0,1) undo()!S");
        edge(11, "refused, if only the columns would become others", "begin(2,1) begin(2,2) pour(0,1) undo()!S");
        edge(11, "refused, if rows become columns", "begin(2,3) begin(3,2) pour(0,1) undo()!S");
        edge(11, "refused with water in the ground", "begin(3,3) slope(9,0,0) set(4,0) profile() ground(4,0) pour(4,1) "
                + "step(1)=1 undo()=2 undo()=1 undo()!S water(4,true)=1 sun(1)=1 undo()=0");
        edge(11, "not refused with water, if the size stays", "set(0,5) begin(1,1) pour(0,3) undo()=1 height(0)=5 "
                + "water(0,false)=3 undo()=0 height(0)=0 water(0,false)=3");
        edge(11, "not refused with water in the ground, if the size stays", SOAKED + "set(4,9)=0 undo()=1 height(4)=0 "
                + "water(4,true)=1 groundOf(4)=0");
        edge(11, "what is refused can be undone when it is dry", "set(0,4) begin(2,2) set(3,9) pour(3,1) undo()=2 undo()!S "
                + "undo()!S step(1)=1 undo()=1 rows()=1 height(0)=4 undo()=0 height(0)=0");
        edge(11, "NONE with water", "pour(0,1) undo()=-1 water(0,false)=1");
        edge(11, "the ninth change with another size", "begin(1,9) begin(1,8) begin(1,7) begin(1,6) begin(1,5) "
                + "begin(1,4) begin(1,3) begin(1,2) begin(1,1) undo()=7 columns()=2 6*undo() columns()=8 undo()=0 "
                + "columns()=9 undo()=-1 columns()=9");
    }

    private static void rowsAndColumns() {
        edge(12, "1 to 10", "rows()=1 begin(10,1) rows()=10 begin(1,10) rows()=1 begin(2,9) rows()=2");
        edge(13, "1 to 10", "columns()=1 begin(10,1) columns()=1 begin(1,10) columns()=10 begin(2,9) columns()=9");
    }

    private static void cellsOfEachPromise() {
        String[] calls = {"14 height(?)", "15 level(?)", "16 drain(?)", "17 outlet(?)", "18 gathers(?)", "19 rank(?)",
            "20 length(?)", "21 sill(?,0)", "21 sill(0,?)", "23 lakeOf(?)", "26 isWet(0,?)", "27 wallCost(0,?)",
            "28 isDam(0,?,0)", "28 isDam(0,0,?)", "35 ground(?,-1)", "36 groundOf(?)", "38 pour(?,1)",
            "41 water(?,false)", "41 water(?,true)"};
        for (String call : calls) {
            int promise = Integer.parseInt(call.substring(0, 2));
            range(promise, "", call.substring(3), 0, 0, 'I');
            range(promise, "begin(1,10)", call.substring(3), 0, 9, 'I');
            range(promise, "begin(3,2) slope(9,3,2)", call.substring(3), 0, 5, 'I');
            range(promise, "begin(10,10) slope(9,9,9)", call.substring(3), 0, 99, 'I');
        }
        edge(14, "the least and the greatest height", "height(0)=0 set(0,999)=0 height(0)=999");
        edge(14, "a cell that is no more", "begin(2,2) height(3)=0 begin(1,1) height(1)!I height(3)!I level(3)!I");
    }

    private static void levelsAndDrains() {
        edge(15, "on the rim its height", "begin(1,3) set(1,999) all(level)=0,999,0 begin(2,2) set(3,7) all(level)=0,0,0,7");
        edge(15, "in a hollow the lowest of the rim", HOLLOW + "level(4)=250 set(7,120) level(4)=120 set(7,0) level(4)=0");
        edge(15, "on a hill its height", "begin(3,3) set(4,999) level(4)=999 set(4,1) level(4)=1 set(4,0) level(4)=0");
        edge(15, "the greatest level", "begin(3,3) slope(999,0,0) set(4,0) level(4)=999");
        edge(15, "corners do not matter", HOLLOW + "set(0,0) set(2,0) set(6,0) set(8,0) level(4)=250");
        edge(16, "NONE on the rim", "begin(2,10) drain(0)=-1 drain(9)=-1 drain(10)=-1 drain(19)=-1");
        edge(16, "a cell with four neighbours is not on the rim", "begin(3,3) all(drain)=-1,-1,-1,-1,1,-1,-1,-1,-1");
        edge(16, "to each side", "land(zaz/zzz/zzz) drain(4)=1 set(5,0) set(1,9) drain(4)=5 set(5,9) set(7,0) drain(4)=7 "
                + "set(7,9) set(3,0) drain(4)=3");
        edge(16, "of several the one with the least number", "begin(3,3) slope(9,0,0) drain(4)=1 set(1,10) drain(4)=3 "
                + "set(3,10) drain(4)=5 set(5,10) drain(4)=7");
        edge(16, "flat land", "begin(4,4) page(0)=oooo/oNNo/oNNo/oooo");
        edge(16, "of all that are reached, not of the latest alone", "land(ddddd/dbcbd/dbabd/ddadd) "
                + "page(0)=ooooo/oSSSo/oESWo/ooooo");
    }

    /** What was asked before a change must not be told again after it. */
    private static void whatIsAskedAfterEachChange() {
        String two = "land(zzzzz/zbabz/zzazz)=15 length(12)=2 rank(12)=2 gathers(12)=4 outlet(6)=12 drain(6)=7 level(6)=10 ";
        String flat = "begin(3,5)=15 ";
        String asked = "length(12)=0 rank(12)=1 gathers(12)=1 outlet(6)=1 drain(6)=1 length(1)=1 ";
        edge(7, "after begin", two + flat + asked + "level(6)=0");
        edge(8, "after slope", two + "slope(7,0,0)=7 " + asked + "level(6)=7");
        edge(10, "after set", two + "set(12,250)=0 set(1,0)=250 length(12)=0 rank(12)=1 gathers(12)=1 outlet(6)=1 "
                + "drain(6)=1 level(6)=10 length(1)=3 gathers(1)=4");
        edge(11, "after undo", two + "slope(0,0,0)=0 " + asked + "undo()=1 length(12)=2 rank(12)=2 gathers(12)=4 "
                + "outlet(6)=12 drain(6)=7 level(6)=10");
        edge(6, "after read", "begin(3,5) " + asked + two);
        int added = drawn(8, 500, 1).get(0);
        edge(9, "after scatter", "level(0)=0 scatter(8,500)=" + added + " level(0)=" + added + " digest()="
                + ((7L * 31 + added) * 31 - 1) + " wet(" + added + ")=0 meanHeight()=" + added + ".0");
        edge(9, "after set and scatter", "level(0)=0 set(0,5)=0 scatter(8,490)=" + (5 + drawn(8, 490, 1).get(0)) + " level(0)="
                + (5 + drawn(8, 490, 1).get(0)));
        edge(22, "after two lakes of which one had two cells", "land(zzzzzz/zazaaz/zzzzzz) lakes()=2 set(0,240) lakes()=2 "
                + "lakeOf(7)=0 lakeOf(9)=1 lakeOf(10)=1 set(4,100) lakes()=2 lakeAt(1,0)=100 set(8,0) lakes()=1");
        edge(21, "a sill after a sill, and after a change", "land(aza/aka/aaa) sill(0,2)=0 sill(1,2)=250 sill(4,8)=100 "
                + "set(4,5) sill(4,8)=5 sill(0,2)=0 set(8,30) sill(0,2)=5");
        edge(27, "a wall after a wall", "begin(5,3) wallCost(9,4)=36 wallCost(9,10)=36 wallCost(9,7)=36 wallCost(8,7)=32 "
                + "dams(8,7)=4,6,8,10 set(6,7) wallCost(8,7)=25 undo() wallCost(8,7)=32");
        edge(27, "a wall after a wall, by ways that cross", "begin(5,3) scatter(285,5) wallCost(6,4)=14 wallCost(5,10)=10");
        edge(27, "a wall after a wall, of cells that were full", "begin(3,4) scatter(873,3) wallCost(4,6)=11 "
                + "wallCost(3,5)=7");
    }

    private static void catchments() {
        edge(17, "of one on the rim itself", "outlet(0)=0 begin(2,2) all(outlet)=0,1,2,3");
        edge(17, "of one inside", "begin(3,3) outlet(4)=1 outlet(7)=7 set(1,5) outlet(4)=3");
        edge(17, "over several drains", "begin(10,10) outlet(81)=1 outlet(88)=8 outlet(80)=80 outlet(99)=99");
        edge(18, "itself alone", "gathers(0)=1 begin(3,3) gathers(4)=1 gathers(0)=1");
        edge(18, "itself and what drains to it", "begin(3,3) gathers(1)=2 begin(10,10) gathers(1)=9 gathers(11)=8 "
                + "gathers(81)=1 gathers(0)=1");
        String two = "land(zzzzz/zbabz/zzazz) ";
        String three = "land(zzzzz/zzbzz/zaaaz/zzazz) ";
        String unlike = "land(zzzzz/zzbzz/zbabz/zzazz) ";
        edge(19, "1 if no drain leads to it", "rank(0)=1 " + two + "rank(6)=1 rank(8)=1 rank(0)=1");
        edge(19, "of one the same", "begin(3,3) rank(1)=1 begin(10,10) rank(1)=1");
        edge(19, "1 more of two", two + "rank(7)=2 rank(12)=2");
        edge(19, "1 more of three", three + "rank(11)=1 rank(13)=1 rank(7)=1 rank(12)=2 rank(17)=2");
        edge(19, "the greatest, if there is one of it alone", unlike + "rank(7)=2 rank(11)=1 rank(13)=1 rank(12)=2");
        edge(20, "0 if no drain leads to it", "length(0)=0 " + two + "length(6)=0 length(0)=0");
        edge(20, "1 more than that of two", two + "length(7)=1 length(12)=2");
        edge(20, "1 more than the greatest", unlike + "length(11)=0 length(7)=1 length(12)=2 length(17)=3");
        edge(20, "the greatest of flat land", "begin(10,10) length(1)=8 length(11)=7 length(81)=0 length(91)=0");
    }

    private static void sills() {
        edge(21, "a cell and itself", "sill(0,0)=0 set(0,999) sill(0,0)=999");
        edge(21, "both ends included", "begin(1,2) set(0,5) set(1,9) sill(0,1)=9 sill(1,0)=9 sill(0,0)=5 sill(1,1)=9");
        edge(21, "the one way that there is", "land(azb) sill(0,2)=250 sill(2,0)=250 sill(0,1)=250");
        edge(21, "the least over all ways", "land(aza/aka/aaa) sill(0,2)=0 sill(0,4)=100 sill(1,4)=250 set(8,30) "
                + "sill(0,2)=30 set(8,101) sill(0,2)=100");
        edge(21, "no way from corner to corner", "land(az/za) sill(0,3)=250");
        edge(21, "the greatest land", "begin(10,10) sill(0,99)=0 slope(999,0,0) sill(0,99)=999 sill(99,0)=999");
    }

    private static void lakes() {
        edge(22, "none", "lakes()=0 begin(10,10) lakes()=0 slope(0,9,9) lakes()=0");
        edge(22, "none in two rows, where all are on the rim", "begin(2,10) slope(9,0,0) set(3,0) set(14,0) lakes()=0");
        edge(22, "a depth of 1 is above 0", "begin(3,3) slope(1,0,0) lakes()=0 set(4,0) lakes()=1 set(4,1) lakes()=0");
        edge(22, "one cell comes to itself", HOLLOW + "lakes()=1 lakeOf(4)=0 lakeOf(0)=-1");
        edge(22, "corner to corner is no way", "land(zzzz/zazz/zzaz/zzzz) lakes()=2 lakeOf(5)=0 lakeOf(10)=1");
        edge(22, "side by side is one", "land(zzzz/zaaz/zzaz/zzzz) lakes()=1 lakeAt(0,1)=3");
        edge(22, "round a corner, from its least cell", "land(zzzzz/zzzaz/zazaz/zaaaz/zzzzz) lakes()=1 lakeAt(0,1)=6 "
                + "all(lakeOf)=-1,-1,-1,-1,-1,-1,-1,-1,0,-1,-1,0,-1,0,-1,-1,0,0,0,-1,-1,-1,-1,-1,-1");
        edge(22, "as many as there can be", "begin(10,10) slope(5,0,0) " + checkered() + "lakes()=32 lakeOf(88)=31");
        edge(23, "NONE if its depth is 0", "lakeOf(0)=-1 land(zzzzz/zazaz/zzzzz) all(lakeOf)=-1,-1,-1,-1,-1,-1,0,-1,1,-1,"
                + "-1,-1,-1,-1,-1");
        edge(23, "numbered by their least cells", "land(zzzzz/zzzaz/zazzz/zzzzz) lakeOf(8)=0 lakeOf(11)=1");
    }

    /** Hollows in every second cell inside, as in a board for chess. */
    private static String checkered() {
        StringBuilder words = new StringBuilder();
        for (int cell = 11; cell < 89; cell++) {
            if (cell % 10 > 0 && cell % 10 < 9 && (cell / 10 + cell % 10) % 2 == 0) {
                words.append("set(").append(cell).append(",0) ");
            }
        }
        return words.toString();
    }

    private static void lakeAt() {
        range(24, HOLLOW, "lakeAt(?,0)", 0, 0, 'I');
        range(24, "land(zzzzz/zazaz/zzzzz)", "lakeAt(?,3)", 0, 1, 'I');
        range(24, HOLLOW, "lakeAt(0,?)", 0, 3, 'A');
        range(24, "begin(10,10) slope(5,0,0) " + checkered(), "lakeAt(?,1)", 0, 31, 'I');
        edge(24, "no lake at all", "lakeAt(0,0)!I begin(3,3) lakeAt(0,0)!I lakeAt(0,3)!I");
        edge(24, "a lake that is no more", HOLLOW + "lakeAt(0,0)=250 set(4,250) lakeAt(0,0)!I undo() lakeAt(0,0)=250");
        edge(24, "no such lake is told first", "lakeAt(0,4)!I lakeAt(-1,-1)!I " + HOLLOW + "lakeAt(1,-1)!I lakeAt(1,4)!I "
                + "lakeAt(0,-1)!A");
        edge(24, "one cell", HOLLOW + "lakeAt(0,0)=250 lakeAt(0,1)=1 lakeAt(0,2)=250 lakeAt(0,3)=1");
        edge(24, "the least depth", "begin(3,3) slope(999,0,0) set(4,998) lakeAt(0,0)=999 lakeAt(0,1)=1 lakeAt(0,2)=1");
        edge(24, "the spill is the drain of the one that was taken first", "land(kkkk/kaak/kkfk) lakeAt(0,0)=50 "
                + "lakeAt(0,1)=2 lakeAt(0,2)=100 lakeAt(0,3)=10");
        edge(24, "a spill that is not on the rim", "land(kkkkk/kakkk/kfkkk/kbkkk) lakeAt(0,3)=11 lakeAt(0,0)=50");
        edge(24, "the deepest and the widest lake", "begin(10,10) slope(999,0,0) " + pit() + "lakes()=1 lakeAt(0,0)=999 "
                + "lakeAt(0,1)=64 lakeAt(0,2)=63936 lakeAt(0,3)=1 lakeShare()=0.64");
    }

    /** All cells inside down to the height 0. */
    private static String pit() {
        StringBuilder words = new StringBuilder();
        for (int cell = 11; cell < 89; cell++) {
            if (cell % 10 > 0 && cell % 10 < 9) {
                words.append("set(").append(cell).append(",0) ");
            }
        }
        return words.toString();
    }

    private static void wet() {
        range(25, "begin(3,3) slope(9,1,1)", "wet(?)", 0, 1000, 'A');
        range(26, "begin(3,3) slope(9,1,1)", "isWet(?,4)", 0, 1000, 'A');
        edge(25, "none at the level 0", "wet(0)=0 begin(10,10) wet(0)=0");
        edge(25, "all at the level 1000", "wet(1000)=1 begin(10,10) slope(999,0,0) wet(1000)=100");
        edge(25, "the height is less than the level", "wet(1)=1 set(0,998) wet(998)=0 wet(999)=1 set(0,999) wet(999)=0");
        edge(25, "a hollow is wet with the rim", "land(fff/faf/fff) wet(50)=0 wet(51)=9 set(1,40) wet(40)=0 wet(41)=2");
        edge(26, "on the rim", "isWet(0,0)=false isWet(1,0)=true set(0,999) isWet(999,0)=false isWet(1000,0)=true");
        edge(26, "a hollow within a rim", HOLLOW + "isWet(250,4)=false isWet(251,4)=true set(0,0) isWet(250,4)=false "
                + "set(1,249) isWet(250,4)=true isWet(249,4)=false");
        edge(26, "a hill", "begin(3,3) set(4,7) isWet(7,4)=false isWet(8,4)=true isWet(7,1)=true");
        edge(26, "the level is told before the cell", "isWet(1001,1)!A isWet(-1,-1)!A isWet(MAX,MAX)!A isWet(1000,1)!I "
                + "isWet(0,-1)!I");
    }

    private static void walls() {
        range(27, "begin(3,3) slope(9,1,1)", "wallCost(?,4)", 0, 1000, 'A');
        range(28, "begin(3,3) slope(9,1,1)", "isDam(?,4,3)", 0, 1000, 'A');
        range(28, "begin(3,3) slope(9,1,1)", "isDam(1000,4,?)", 0, 8, 'I');
        edge(27, "0 if it is not wet", "wallCost(0,0)=0 begin(3,3) wallCost(0,4)=0 slope(9,0,0) wallCost(9,4)=0 "
                + "wallCost(10,4)=4");
        edge(27, "0 if it is in a hollow that is not wet", HOLLOW + "wallCost(250,4)=0 wallCost(251,4)=4");
        edge(27, "0 if it is not wet and on the rim", "set(0,7) wallCost(7,0)=0 isDam(7,0,0)=false wallCost(8,0)!N");
        edge(27, "wet and on the rim", "wallCost(1,0)!N begin(3,3) wallCost(1,0)!N wallCost(1000,8)!N wallCost(1,4)=4");
        edge(27, "all of two rows are on the rim", "begin(2,2) wallCost(1,3)!N begin(1,3) wallCost(1,1)!N begin(2,10) "
                + "wallCost(1,14)!N");
        edge(27, "the least and the greatest level", "begin(3,3) wallCost(1,4)=4 wallCost(1000,4)=4000 slope(999,0,0) "
                + "wallCost(999,4)=0 wallCost(1000,4)=4");
        edge(27, "the least cost", "begin(3,3) slope(5,0,0) set(4,0) set(1,4) wallCost(5,4)=1 dams(5,4)=1");
        edge(27, "the greatest land", "begin(10,10) wallCost(1000,44)=4000 wallCost(1000,11)=4000 wallCost(1000,88)=4000");
        edge(27, "the level is told first, then the cell, then the rim", "wallCost(1001,-1)!A wallCost(-1,1)!A "
                + "wallCost(1001,0)!A wallCost(1000,1)!I wallCost(1000,-1)!I wallCost(1000,0)!N");
        edge(28, "no dam if it is not wet", "begin(3,3) dams(0,4)=none slope(9,0,0) dams(9,4)=none dams(9,0)=none");
        edge(28, "none of them is on the place", "begin(3,3) dams(1,4)=1,3,5,7 isDam(1,4,4)=false isDam(1,4,0)=false");
        edge(28, "none on what is as high as the level", "begin(3,3) set(1,5) dams(5,4)=3,5,7 dams(6,4)=1,3,5,7 "
                + "set(4,5) dams(5,4)=none");
        edge(28, "wet and on the rim", "isDam(1,0,0)!N begin(3,3) isDam(1,0,4)!N isDam(1,8,8)!N isDam(1,4,0)=false");
        edge(28, "the level is told first, then the cells, then the rim", "isDam(1001,-1,-1)!A isDam(-1,0,0)!A "
                + "isDam(1001,0,1)!A isDam(1000,1,0)!I isDam(1000,0,1)!I isDam(1000,0,-1)!I isDam(1000,-1,0)!I "
                + "isDam(0,0,1)!I isDam(1000,0,0)!N");
        edge(28, "the wall of another land, level and place", "begin(3,4) dams(1,5)=1,4,6,9 dams(1,6)=2,5,7,10 "
                + "set(6,1) dams(1,5)=1,4,9 wallCost(2,5)=7 wallCost(1,5)=3 undo() wallCost(1,5)=4");
    }

    private static void wallsOfSeveralLeastCosts() {
        edge(28, "of three gates alike the nearest", "land(zzzzz/zzazz/zzyzz/zzyzz/zzyzz) wallCost(250,7)=10 "
                + "dams(250,7)=12");
        edge(28, "but the cheaper one, though it is farther", "land(zzzzz/zzazz/zzwzz/zzxzz/zzyzz) wallCost(250,7)=10 "
                + "dams(250,7)=22");
        edge(28, "of two gates alike the nearer, past cells that come to the place anyway",
                "land(zzzzz/zaaaz/zzyzz/zzyzz/zzyzz) wallCost(250,6)=10 dams(250,6)=12");
        edge(28, "two dams as cheap as one farther off", "land(zzzzz/zxaxz/zxzxz/zvvvz/zzvzz) wallCost(250,7)=40 "
                + "dams(250,7)=6,8");
        edge(28, "one dam cheaper than two nearer ones", "land(zzzzz/zxaxz/zxzxz/zwwwz/zzwzz) wallCost(250,7)=30 "
                + "dams(250,7)=17");
    }

    private static void names() {
        int[][] least = {{40, 0, 0}, {40, 60, 0}, {100, 0, 0}, {0, 80, 1}, {20, 80, 1}, {0, 100, 1}, {0, 15, 2},
            {15, 0, 2}, {0, 0, 2}, {27, 0, 3}, {27, 73, 3}, {0, 50, 4}, {26, 50, 4}, {0, 48, 5}, {26, 22, 5}, {16, 0, 5}};
        for (int[] one : least) {
            edge(29, "just as much", "nameOf(" + one[0] + "," + one[1] + ")=" + one[2]);
        }
        int[][] less = {{39, 0, 3}, {39, 61, 3}, {0, 79, 4}, {21, 79, 4}, {0, 16, 5}, {16, 0, 5}, {26, 0, 5}, {26, 74, 4},
            {0, 49, 6}, {26, 49, 6}, {26, 23, 6}, {19, 81, 1}};
        for (int[] one : less) {
            edge(29, "1 less", "nameOf(" + one[0] + "," + one[1] + ")=" + one[2]);
        }
        range(29, "", "nameOf(?,0)", 0, 100, 'A');
        range(29, "", "nameOf(0,?)", 0, 100, 'A');
        range(29, "", "nameOf(60,?)", 0, 40, 'A');
        range(29, "", "nameOf(100,?)", 0, 0, 'A');
        range(29, "", "nameOf(?,30)", 0, 70, 'A');
        edge(29, "both out of range, and sums that wrap around", "nameOf(101,-1)!A nameOf(-1,101)!A nameOf(-1,-1)!A "
                + "nameOf(MAX,MAX)!A nameOf(MIN,MIN)!A nameOf(MAX,-2147483547)!A nameOf(-2147483548,MAX)!A");
    }

    private static void profiles() {
        edge(30, "with one layer of the thickness 1, of clay alone", "profile()=0 layerAt(0,0,0)=1 layerAt(0,0,1)=100 "
                + "layerAt(0,0,2)=0 layerAt(0,0,3)=0 layerAt(0,0,4)=0 layerAt(0,1,0)!I");
        edge(30, "the sixth and the seventh", "profile()=0 profile()=1 profile()=2 profile()=3 profile()=4 profile()=5 "
                + "profile()!S holds(5)=4 holds(6)!I profile()!S");
        edge(30, "with layers and grounds of the others", "6*profile() layer(5,50,0,0)=2 ground(0,0)=-1 profile()!S");
        edge(30, "not with less water or another land", "6*profile() begin(10,10) profile()!S undo()=0 profile()!S");
        range(33, "4*profile()", "holds(?)", 0, 3, 'I');
        range(33, "6*profile()", "holds(?)", 0, 5, 'I');
    }

    private static void layers() {
        range(31, "profile()", "layer(?,1,0,0)", 0, 0, 'I');
        range(31, "6*profile()", "layer(?,1,0,0)", 0, 5, 'I');
        range(31, "profile()", "layer(0,?,0,0)", 1, 50, 'A');
        range(31, "profile()", "layer(0,1,?,0)", 0, 100, 'A');
        range(31, "profile()", "layer(0,1,0,?)", 0, 100, 'A');
        range(31, "profile()", "layer(0,1,33,?)", 0, 67, 'A');
        edge(31, "the fifth and the sixth", "profile() layer(0,1,0,0)=2 layer(0,2,0,0)=3 layer(0,3,0,0)=4 "
                + "layer(0,4,0,0)=5 layer(0,5,0,0)!S layerAt(0,4,0)=4 layerAt(0,5,0)!I");
        edge(31, "the others have their own", "2*profile() 4*layer(0,1,0,0) layer(1,1,0,0)=2 layer(0,1,0,0)!S");
        edge(31, "the ground of a cell", "2*profile() ground(0,1)=-1 layer(1,1,0,0)!S layer(0,1,0,0)=2");
        edge(31, "the ground of the last cell", "profile() begin(10,10) ground(99,0)=-1 layer(0,1,0,0)!S "
                + "ground(99,-1)=0 layer(0,1,0,0)=2");
        edge(31, "the ground of no cell any more", "2*profile() ground(0,0)=-1 ground(0,1)=0 layer(0,1,0,0)=2 "
                + "layer(1,1,0,0)!S begin(1,1) layer(1,1,0,0)=2");
        edge(31, "the ground of one cell still", "profile() begin(1,2) ground(0,0) ground(1,0) ground(0,-1)=0 "
                + "layer(0,1,0,0)!S ground(1,-1)=0 layer(0,1,0,0)=2");
        edge(31, "no ground any more after undo of a size", "profile() begin(1,2) ground(1,0) layer(0,1,0,0)!S undo()=0 "
                + "layer(0,1,0,0)=2");
        edge(31, "no such profile is told first", "layer(0,0,0,0)!I layer(-1,1,101,0)!I profile() layer(1,51,0,0)!I "
                + "4*layer(0,1,0,0) layer(1,1,0,0)!I");
        edge(31, "out of range is told before the sixth", "profile() 4*layer(0,1,0,0) layer(0,0,0,0)!A "
                + "layer(0,51,0,0)!A layer(0,1,-1,0)!A layer(0,1,50,51)!A layer(0,1,0,0)!S");
        edge(31, "out of range is told before the ground", "profile() ground(0,0) layer(0,0,0,0)!A layer(0,1,101,0)!A "
                + "layer(0,1,0,-1)!A layer(0,1,0,0)!S");
        edge(31, "five layers and the ground", "profile() 4*layer(0,1,0,0) ground(0,0) layer(0,1,0,0)!S");
        edge(31, "shares of which the sum wraps around", "profile() layer(0,1,MAX,-2147483547)!A layer(0,1,MIN,MIN)!A");
    }

    private static void layerAt() {
        range(32, "3*profile()", "layerAt(?,0,0)", 0, 2, 'I');
        range(32, "profile()", "layerAt(0,?,0)", 0, 0, 'I');
        range(32, "profile() 4*layer(0,7,8,9)", "layerAt(0,?,0)", 0, 4, 'I');
        range(32, "profile()", "layerAt(0,0,?)", 0, 4, 'A');
        edge(32, "from above, from 0", "profile() layer(0,2,10,20) layer(0,50,0,100) layer(0,3,0,0) layerAt(0,0,0)=1 "
                + "layerAt(0,1,0)=2 layerAt(0,1,1)=10 layerAt(0,1,2)=20 layerAt(0,1,3)=70 layerAt(0,1,4)=5 "
                + "layerAt(0,2,0)=50 layerAt(0,2,1)=0 layerAt(0,2,2)=100 layerAt(0,2,3)=0 layerAt(0,2,4)=1 "
                + "layerAt(0,3,0)=3 layerAt(0,3,3)=100 layerAt(0,3,4)=2");
        edge(32, "no such profile or layer is told first", "layerAt(0,0,5)!I profile() layerAt(1,0,-1)!I "
                + "layerAt(0,1,5)!I layerAt(0,-1,-1)!I layerAt(-1,-1,-1)!I layerAt(0,0,5)!A");
    }

    private static void holdsAndMixed() {
        edge(33, "the least", "profile() holds(0)=4 layer(0,1,0,0) holds(0)=5");
        edge(33, "the most", "profile() 4*layer(0,50,100,0) holds(0)=804");
        int[][] soils = {{40, 0, 4}, {0, 80, 3}, {0, 0, 1}, {27, 0, 4}, {0, 50, 3}, {16, 0, 2}, {26, 49, 3}};
        for (int[] soil : soils) {
            edge(33, "a thickness of 10", "profile() layer(0,10," + soil[0] + "," + soil[1] + ") holds(0)="
                    + (4 + 10 * soil[2]));
        }
        range(34, "3*profile()", "mixed(?,0)", 0, 2, 'I');
        range(34, "profile()", "mixed(0,?)", 0, 2, 'A');
        edge(34, "no such profile is told first", "mixed(0,3)!I mixed(-1,-1)!I profile() mixed(1,3)!I mixed(0,3)!A");
        mixed("the greatest and the least share", "", 1000, 0, 0);
        mixed("nothing lacks", "layer(0,3,0,0)", 250, 0, 750);
        mixed("1 lacks, and all lost alike: clay", "layer(0,1,0,100) layer(0,1,0,0)", 334, 333, 333);
        mixed("1 lacks, and silt and sand lost alike: silt", "layer(0,3,2,1)", 265, 8, 727);
        mixed("1 lacks, and clay and sand lost alike: clay", "layer(0,3,1,2)", 258, 15, 727);
        mixed("1 lacks, and sand lost most", "layer(0,5,1,58)", 175, 483, 342);
        mixed("1 lacks, and clay lost most", "layer(0,2,2,2)", 347, 13, 640);
        mixed("2 lack, and all lost alike: clay and silt", "layer(0,2,2,1)", 347, 7, 646);
        mixed("2 lack, and silt and sand lost most", "layer(0,6,6,5)", 194, 43, 763);
        mixed("the thickest", "layer(0,50,0,0) layer(0,50,0,100) layer(0,50,100,0) layer(0,50,0,0)", 254, 249, 497);
    }

    /** Clay 1 thick, and these layers below it. */
    private static void mixed(String sentence, String layers, int clay, int silt, int sand) {
        edge(34, sentence, "profile() " + layers + " mixed(0,0)=" + clay + " mixed(0,1)=" + silt + " mixed(0,2)=" + sand);
    }

    private static void grounds() {
        range(35, "", "ground(0,?)", -1, -1, 'I');
        range(35, "profile()", "ground(0,?)", -1, 0, 'I');
        range(35, "6*profile()", "ground(0,?)", -1, 5, 'I');
        range(35, "profile() begin(2,2)", "ground(?,0)", 0, 3, 'I');
        edge(35, "its ground before", "2*profile() ground(0,-1)=-1 ground(0,0)=-1 ground(0,1)=0 ground(0,-1)=1 "
                + "ground(0,-1)=-1");
        edge(35, "water that stands does not matter", "2*profile() pour(0,9) ground(0,1)=-1 ground(0,0)=1 ground(0,-1)=0");
        edge(35, "water in its ground", SOAKED + "ground(4,1)!S ground(4,0)!S ground(4,-1)!S sun(1)=1 ground(4,1)=0");
        edge(35, "water in the ground of another cell", SOAKED + "ground(3,0)=-1 ground(5,1)=-1");
        edge(35, "no such cell or profile is told first", SOAKED + "ground(4,2)!I ground(4,-2)!I ground(9,0)!I "
                + "ground(-1,-1)!I ground(4,MAX)!I ground(9,9)!I ground(4,0)!S");
        edge(36, "NONE at first", "groundOf(0)=-1 begin(2,2) all(groundOf)=-1,-1,-1,-1");
        edge(36, "a profile, or NONE", "6*profile() begin(1,2) ground(1,5) all(groundOf)=-1,5 ground(1,-1) "
                + "all(groundOf)=-1,-1");
    }

    private static void rainAndPour() {
        range(37, "begin(2,2)", "rain(?)", 1, 1000, 'A');
        edge(37, "on one cell", "rain(1)=1 rain(1000)=1001 water(0,false)=1001");
        edge(37, "on the greatest land", "begin(10,10) rain(1000)=100000 water(0,false)=1000 water(99,false)=1000 "
                + "rain(1)=100100");
        edge(37, "what came in all, though it is gone", "rain(5)=5 step(1)=1 rain(5)=10 sun(100)=5 rain(1)=11");
        edge(37, "it comes to stand, not into the ground", "profile() ground(0,0) rain(5) water(0,false)=5 "
                + "water(0,true)=0");
        range(38, "begin(2,2)", "pour(3,?)", 1, 100000, 'A');
        edge(38, "on one cell alone", "begin(1,3) pour(1,100000)=100000 pour(1,1)=100001 stands()=0,100001,0");
        edge(38, "what came in all", "pour(0,7)=7 step(1)=1 pour(0,7)=14 rain(1)=15");
        edge(38, "no such cell is told first", "pour(1,0)!I pour(-1,100001)!I pour(1,MIN)!I pour(0,0)!A pour(0,100001)!A");
        edge(38, "as much as can come in all calls", "510*pour(0,100000) water(0,false)=51000000 total(1)=51000000");
        edge(37, "as much as can come by rain", "begin(10,10) 505*rain(1000) water(99,false)=505000 total(0)=50500000 "
                + "total(1)=50500000");
    }

    private static void steps() {
        range(39, "begin(2,2) rain(5)", "step(?)", 1, 50, 'A');
        edge(39, "nothing moves without water", "step(1)=0 step(50)=0");
        edge(39, "in one of fifty something moved", "pour(0,3)=3 step(50)=1 step(50)=0");
        edge(39, "in all of fifty something moved", "land(zzzz/zaaz/zzzz) pour(5,1) step(50)=50 step(1)=1");
        edge(39, "fifty steps are as many single ones", "land(zzzzz/zaaaz/zzzzz) pour(8,99) 50*step(1) "
                + "stands()=0,0,0,0,0,0,33,33,33,0,0,0,0,0,0");
        edge(39, "fifty steps at once", "land(zzzzz/zaaaz/zzzzz) pour(8,99) step(50) "
                + "stands()=0,0,0,0,0,0,33,33,33,0,0,0,0,0,0");
        edge(39, "level water rests", "land(zzzz/zaaz/zzzz) pour(5,2) pour(6,2) step(50)=0");
        edge(39, "what is on the rim runs out, then what comes there, and then nothing moves", "begin(3,3) rain(1) "
                + "step(1)=1 totals()=9,1,0,0,8,0 step(50)=1 totals()=9,0,0,0,9,0 step(50)=0");
    }

    private static String moved(String land, String pours, String stands) {
        return "land(" + land + ") " + pours + " step(1)=1 stands()=" + stands;
    }

    private static void turnsOfAStep() {
        String two = "zzzz/zaaz/zzzz";
        String three = "zzzzz/zaaaz/zzzzz";
        edge(39, "from the highest surface down, and lower as it is now",
                moved(two, "pour(5,1)", "0,0,0,0,0,1,0,0,0,0,0,0"));
        edge(39, "the one that had its turn has no other", moved(two, "pour(6,1)", "0,0,0,0,0,0,1,0,0,0,0,0"));
        edge(39, "of several the least number first", moved(three, "pour(6,1)", "0,0,0,0,0,0,0,1,0,0,0,0,0,0,0"));
        edge(39, "all as it is at the beginning of the step",
                moved(three, "pour(8,2)", "0,0,0,0,0,0,1,0,1,0,0,0,0,0,0"));
        edge(39, "of several the least number first, in each step anew", "land(" + three + ") pour(7,1) pour(8,1) step(2)=2 "
                + "stands()=0,0,0,0,0,0,1,1,0,0,0,0,0,0,0");
        edge(39, "the beginning of each step, in calls one by one", "begin(3,3) pour(4,9) step(1)=1 water(4,false)=4 "
                + "step(1)=1 water(4,false)=2 step(1)=1 water(4,false)=1 step(1)=1 total(4)=9 step(1)=0");
        edge(39, "the highest surface first, though the other number is less", HOLLOW + "pour(1,5) pour(0,2) step(1)=1 "
                + "water(4,false)=5 total(4)=2");
        String half = "zzzz/zbaz/zzzz";
        edge(39, "half of 2", moved(two, "pour(5,2)", "0,0,0,0,0,1,1,0,0,0,0,0"));
        edge(39, "half of 3, rounded up, and 1 back", moved(two, "pour(5,3)", "0,0,0,0,0,2,1,0,0,0,0,0"));
        edge(39, "half of 14, with 4 upon a step of 10: all, if it is less", moved(half, "pour(5,4)",
                "0,0,0,0,0,0,4,0,0,0,0,0"));
        edge(39, "half of 20 is all of 10", moved(half, "pour(5,10)", "0,0,0,0,0,0,10,0,0,0,0,0"));
        edge(39, "half of 22 is 11 of 12", moved(half, "pour(5,12)", "0,0,0,0,0,1,11,0,0,0,0,0"));
        edge(39, "half of 21 is 11 of 11, rounded up, and then 1 is back", moved(half, "pour(5,11)",
                "0,0,0,0,0,1,10,0,0,0,0,0"));
        edge(39, "the difference of 1", moved("zzzzz/zaazz/zzzzz", "pour(6,3) pour(7,2)",
                "0,0,0,0,0,0,3,2,0,0,0,0,0,0,0"));
        String cross = "land(zzzzz/zzazz/zabaz/zzazz/zzzzz) ";
        edge(39, "of several the first one in their order: north", cross + "pour(12,1) step(1)=1 water(7,false)=1");
        edge(39, "east", cross + "set(7,99) pour(12,1) step(1)=1 water(13,false)=1");
        edge(39, "south", cross + "set(7,99) set(13,99) pour(12,1) step(1)=1 water(17,false)=1");
        edge(39, "west", cross + "set(7,99) set(13,99) set(17,99) pour(12,1) step(1)=1 water(11,false)=1");
        edge(39, "north before west", cross + "set(13,99) set(17,99) pour(12,1) step(1)=1 water(7,false)=1");
        edge(39, "the lowest, though it is the last one", cross + "set(7,1) set(13,1) set(17,1) pour(12,1) step(1)=1 "
                + "water(11,false)=1");
        edge(39, "the lowest by its surface, not by its height", cross + "pour(7,2) pour(13,1) pour(17,1) pour(12,1) "
                + "step(1)=1 water(11,false)=1");
        edge(39, "none that is as high", "begin(3,3) slope(5,0,0) set(4,4) pour(4,1) step(1)=0 water(4,false)=1");
        edge(39, "one that is 1 lower", "begin(3,3) slope(5,0,0) set(4,4) pour(4,2) step(1)=1 water(4,false)=1 "
                + "total(4)=1");
        edge(39, "no water, no turn", "begin(3,3) slope(5,0,0) set(4,9) step(1)=0 height(4)=9");
    }

    private static void runningOutAndSoaking() {
        edge(39, "the one cell of the least land is on the rim", "pour(0,100000) step(1)=1 totals()=100000,0,0,0,100000,0");
        edge(39, "in two rows all are on the rim", "begin(2,10) rain(3) step(1)=1 totals()=60,0,0,0,60,0 step(1)=0");
        edge(39, "what comes to the rim in a step runs out in it", "land(zzz/zaz/zaz) pour(4,4) step(1)=1 "
                + "water(4,false)=2 total(4)=2");
        edge(39, "the grounds of the rim take in nothing", "profile() ground(0,0) pour(0,5) step(1)=1 "
                + "totals()=5,0,0,0,5,0");
        String ground = HOLLOW + "profile() ground(4,0) ";
        edge(39, "NONE takes in nothing", HOLLOW + "pour(4,9) step(1)=0 water(4,false)=9 water(4,true)=0");
        edge(39, "as much as the uppermost soil takes in", ground + "pour(4,9) step(1)=1 water(4,false)=8 water(4,true)=1");
        edge(39, "of clay above, whatever is below", HOLLOW + "profile() layer(0,50,0,0) ground(4,0) pour(4,9) step(1)=1 "
                + "water(4,true)=1");
        edge(39, "as stands there", ground + "pour(4,1) step(1)=1 water(4,false)=0 water(4,true)=1 step(1)=0");
        edge(39, "at the half nothing goes below", ground + "pour(4,2) step(2)=2 totals()=2,0,2,0,0,0 step(1)=0");
        edge(39, "above the half it goes below", ground + "pour(4,3) step(2)=2 totals()=3,1,2,0,0,0 step(1)=1 "
                + "totals()=3,0,2,0,0,1 step(1)=0");
        edge(39, "half of 5, rounded up", HOLLOW + "profile() layer(0,1,0,0) ground(4,0) pour(4,9) step(3)=3 "
                + "totals()=9,6,3,0,0,0 step(1)=1 totals()=9,5,3,0,0,1");
        edge(39, "half of 7, rounded up", HOLLOW + "profile() layer(0,1,0,80) ground(4,0) pour(4,9) step(4)=4 "
                + "totals()=9,5,4,0,0,0 step(1)=1 totals()=9,4,4,0,0,1");
        edge(39, "until all is below but the half", ground + "pour(4,40) step(39)=39 totals()=40,1,2,0,0,37 step(50)=1 "
                + "totals()=40,0,2,0,0,38");
        edge(39, "water flows before it is taken in", "land(zzzz/zaaz/zzzz) profile() ground(5,0) ground(6,0) pour(6,1) "
                + "step(1)=1 soaked()=0,0,0,0,0,0,1,0,0,0,0,0 begin(1,1)!S");
        edge(39, "what flowed there is taken in", "land(zzzzz/zbazz/zzzzz) profile() ground(6,0) ground(7,0) pour(6,1) "
                + "step(1)=1 water(6,true)=0 water(7,true)=1");
    }

    private static void sun() {
        range(40, "begin(2,2) rain(5)", "sun(?)", 1, 100, 'A');
        edge(40, "nothing without water", "sun(1)=0 sun(100)=0 begin(10,10) sun(100)=0 total(3)=0");
        edge(40, "so many units", "pour(0,101) sun(100)=100 water(0,false)=1 sun(100)=1 sun(100)=0");
        edge(40, "just as many as there are", "pour(0,100) sun(100)=100 water(0,false)=0 begin(2,2)=4");
        edge(40, "of each cell", "begin(10,10) rain(3) sun(1)=100 sun(1)=100 sun(2)=100 total(3)=300");
        String both = HOLLOW + "profile() ground(4,0) pour(4,4) step(2)=2 ";
        edge(40, "first those that stand", both + "sun(1)=1 water(4,false)=1 water(4,true)=2");
        edge(40, "all that stand, and none in the ground", both + "sun(2)=2 water(4,false)=0 water(4,true)=2");
        edge(40, "then those in the ground", both + "sun(3)=3 water(4,false)=0 water(4,true)=1");
        edge(40, "just all", both + "sun(4)=4 water(4,false)=0 water(4,true)=0 total(3)=4");
        edge(40, "or all, if it has less", both + "sun(5)=4 total(3)=4 total(2)=0 sun(1)=0");
    }

    private static void waterAndTotals() {
        range(42, "begin(2,2) rain(5)", "total(?)", 0, 5, 'A');
        edge(41, "0 at first", "water(0,false)=0 water(0,true)=0");
        edge(41, "what stands and what is in the ground", SOAKED + "pour(4,5)=6 water(4,false)=5 water(4,true)=1 "
                + "water(3,false)=0 water(3,true)=0");
        edge(42, "0 at first", "totals()=0,0,0,0,0,0");
        edge(42, "each of them", HOLLOW + "profile() ground(4,0) pour(4,9) step(4)=4 pour(0,3) sun(1)=2 "
                + "totals()=12,6,2,2,0,2 set(1,251) set(3,252) step(1)=1 totals()=12,4,2,2,1,3");
        edge(42, "they stay with a new land", "pour(0,5) sun(2)=2 step(1)=1 begin(2,2)=4 totals()=5,0,0,2,3,0 rain(1)=9");
    }

    private static void maps() {
        range(43, "begin(2,2) set(3,7)", "write(?)", 0, 2, 'A');
        edge(43, "the least land", "write(0)=1 page(0)=o page(1)=1 page(2)=.");
        edge(43, "the greatest land", "begin(10,10) write(0)=109 write(1)=109 write(2)=109 pageAt(108)=46 pageAt(109)!I");
        edge(43, "one row has no /", "begin(1,10) page(0)=oooooooooo");
        edge(43, "one column has one between two", "begin(10,1) page(1)=1/1/1/1/1/1/1/1/1/1");
        edge(43, "each side", "land(zaz/zzz/zzz) page(0)=ooo/oNo/ooo set(1,250) set(5,0) page(0)=ooo/oEo/ooo set(5,250) "
                + "set(7,0) page(0)=ooo/oSo/ooo set(7,250) set(3,0) page(0)=ooo/oWo/ooo");
        edge(43, "ranks", "land(zzzzz/zzbzz/zaaaz/zzazz) page(1)=11111/11111/11211/11211");
        edge(43, "no lake and one", "begin(3,3) page(2)=.../.../... slope(9,0,0) set(4,8) page(2)=.../.a./...");
        edge(43, "z for the lake 25 and all behind it", "begin(10,10) slope(5,0,0) " + checkered() + "lakeOf(73)=25 "
                + "lakeOf(75)=26 page(2)=........../.a.b.c.d../..e.f.g.h./.i.j.k.l../..m.n.o.p./.q.r.s.t../"
                + "..u.v.w.x./.y.z.z.z../..z.z.z.z./..........");
        edge(43, "of the land as it is now", "begin(3,3) write(2)=11 slope(9,0,0) set(4,0) pageAt(5)=46 page(2)=.../.a./...");
        edge(43, "in the place of what was on the page", "begin(3,3) page(1)=111/111/111 page(0)=ooo/oNo/ooo begin(1,2) "
                + "page(2)=..");
    }

    private static void page() {
        edge(44, "empty at first", "pageAt(0)!I pageAt(-1)!I pageAt(MIN)!I pageAt(MAX)!I");
        range(44, "write(0)", "pageAt(?)", 0, 0, 'I');
        range(44, "begin(2,3) write(1)", "pageAt(?)", 0, 6, 'I');
        range(44, "begin(10,10) write(2)", "pageAt(?)", 0, 108, 'I');
        edge(44, "the first one and the /", "begin(2,1) write(0)=3 pageAt(0)=111 pageAt(1)=47 pageAt(2)=111 pageAt(3)!I");
        edge(44, "it stays when the land changes", "begin(2,2) write(1)=5 begin(1,1) pageAt(4)=49 pageAt(5)!I");
        edge(44, "a refused map leaves it", "begin(2,2) write(1)=5 write(3)!A write(-1)!A pageAt(4)=49");
        edge(44, "a shorter page ends before", "begin(10,10) write(0)=109 begin(1,1) write(0)=1 pageAt(1)!I pageAt(108)!I");
    }

    private static void digests() {
        edge(45, "of the least land", "digest()=" + (7 * 31 * 31 - 1) + " set(0,999) digest()=" + ((7 * 31 + 999) * 31 - 1));
        edge(45, "of each cell by its number", "begin(1,2) set(0,3) set(1,5) digest()="
                + ((((7L * 31 + 3) * 31 - 1) * 31 + 5) * 31 - 1));
        edge(45, "drains inside", "begin(3,3) digest()=" + wrapped(3, 0));
        edge(45, "modulo 2^64, of the greatest land", "begin(10,10) digest()=" + wrapped(10, 0));
        edge(45, "modulo 2^64, of the greatest levels", "begin(10,10) slope(999,0,0) digest()=" + wrapped(10, 999));
        for (int side = 4; side < 10; side++) {
            edge(45, "modulo 2^64", "begin(" + side + "," + side + ") slope(1,0,0) digest()=" + wrapped(side, 1));
        }
    }

    /** The digest of flat land, by numbers without an end: inside, each cell drains to the one to the north. */
    private static long wrapped(int side, int level) {
        BigInteger sum = BigInteger.valueOf(7);
        BigInteger factor = BigInteger.valueOf(31);
        for (int cell = 0; cell < side * side; cell++) {
            int row = cell / side;
            int column = cell % side;
            boolean isRim = row == 0 || column == 0 || row == side - 1 || column == side - 1;
            sum = sum.multiply(factor).add(BigInteger.valueOf(level));
            sum = sum.multiply(factor).add(BigInteger.valueOf(isRim ? -1 : cell - side));
        }
        return sum.longValue();
    }

    private static void errors() {
        range(46, "begin(3,3) slope(9,1,1)", "errors(?)", 0, 1000, 'A');
        edge(46, "the least land", "errors(0)=0 errors(1)=0 errors(1000)=0");
        edge(46, "the greatest land", "begin(10,10) errors(0)=0 errors(1)=0 errors(1000)=0 slope(999,0,0) errors(999)=0 "
                + "errors(1000)=0 scatter(5,500) errors(500)=0");
        edge(46, "one row, one column, two rows", "begin(1,10) errors(1)=0 begin(10,1) errors(1)=0 begin(2,10) errors(1)=0 "
                + "begin(3,10) errors(1)=0 begin(10,3) errors(1)=0");
        edge(46, "one land after another", "begin(5,5) errors(9)=0 begin(3,3) errors(9)=0 set(4,8) errors(9)=0 errors(8)=0 "
                + "begin(1,1) errors(9)=0 begin(10,10) errors(9)=0 undo() errors(9)=0");
        edge(46, "with water everywhere", SOAKED + "rain(9) errors(251)=0 step(3) errors(251)=0 sun(2) errors(1000)=0");
        edge(46, "nothing changes", "begin(3,3) slope(9,1,1) rain(5) write(1)=11 errors(1000)=0 stands()=5,5,5,5,5,5,5,5,5 "
                + "all(height)=9,10,11,10,11,12,11,12,13 totals()=45,45,0,0,0,0 pageAt(0)=49 pageAt(10)=49 undo()=1 "
                + "all(height)=0,0,0,0,0,0,0,0,0");
    }

    private static void means() {
        edge(47, "the least and the greatest", "meanHeight()=0.0 set(0,999) meanHeight()=999.0 begin(10,10) "
                + "meanHeight()=0.0 slope(999,0,0) meanHeight()=999.0");
        edge(47, "no whole number", "begin(1,2) set(0,1) meanHeight()=0.5 begin(1,3) set(2,1) meanHeight()="
                + 1.0 / 3.0 + " set(1,1) meanHeight()=" + 2.0 / 3.0 + " begin(10,10) set(99,1) meanHeight()=0.01");
        edge(48, "none", "lakeShare()=0.0 begin(3,3) lakeShare()=0.0");
        edge(48, "one of nine", "begin(3,3) slope(1,0,0) set(4,0) lakeShare()=" + 1.0f / 9.0f);
        edge(48, "cells, not lakes", "land(zzzz/zaaz/zzzz) lakeShare()=" + 2.0f / 12.0f);
        edge(48, "in all lakes", "begin(10,10) slope(5,0,0) " + checkered() + "lakeShare()=0.32");
    }

    private static void theLastCall() {
        edge(0, "the 512th call after many changes", "510*set(0,5) undo()=7 height(0)=5");
        edge(0, "the 512th call after many floods", "begin(5,5) 509*wallCost(9,12) wallCost(9,12)=36 wallCost(8,12)=32");
        edge(0, "the 512th call after much water", "begin(3,3) slope(999,0,0) set(4,0) profile() ground(4,0) "
                + "250*pour(4,1) 256*step(1) total(5)=248");
    }
}
