/** Each promise by its number, with ordinary inputs; what is at the boundaries, and what is refused, is in EdgeTest. */
public final class PromiseTest {
    /** A hollow of four cells, of which one is beside the sill, and its outlet in the last row. */
    private static final String HOLLOW = "land(jjjj/jbbj/jbcj/jejj)=16 ";

    private static int wrong;

    public static void main(String[] args) {
        promise(1, "a new object", "rows()=1 columns()=1 height(0)=0 totals()=0,0,0,0,0,0 holds(0)!I pageAt(0)!I "
                + "clearText()=0");
        theText();
        land();
        changes();
        levelsAndDrains();
        streams();
        sillsAndLakes();
        floods();
        walls();
        wallsInWideLand();
        soils();
        grounds();
        flowing();
        soaking();
        rainAndSun();
        maps();
        theorem();
        System.out.println(wrong == 0 ? "all promises hold" : wrong + " answers are wrong");
        System.exit(wrong == 0 ? 0 : 1);
    }

    private static void promise(int number, String what, String words) {
        for (String fault : Script.faults(words)) {
            wrong++;
            System.out.println("promise " + number + ": " + what + ": " + fault + ", in " + words);
        }
    }

    private static void theText() {
        promise(2, "numbers one behind the other", "type(0x6162)=2 type(0x2F6364)=5 type(0x2F65_0066)=8 read()=6 "
                + "all(height)=0,10,20,30,40,50");
        promise(3, "a text for another one", "text(ab/cd/)=6 clearText()=6 text(xyz)=3 read()=3 all(height)=230,240,250");
        promise(4, "the kind", "text(abc/de)=6 errorKind()=3 type(0x2F)=7 errorKind()=3 clearText()=7 errorKind()=1");
        promise(5, "the place", "text(abc/de)=6 errorPlace()=6 type(0x66)=7 errorPlace()=-1 type(0x67)=8 errorPlace()=7 "
                + "type(0x2F)=9 errorPlace()=7");
    }

    private static void land() {
        promise(6, "read", "text(abz/cde)=7 read()=6 rows()=2 columns()=3 all(height)=0,10,250,20,30,40");
        promise(7, "begin", "begin(4,5)=20 rows()=4 columns()=5 height(19)=0 begin(3,3)=9 begin(1,1)=1");
        promise(8, "slope", "begin(2,3) slope(100,-5,9)=118 all(height)=100,109,118,95,104,113");
        // 12345 + 1103515245 is 1103527590, and 65536 goes into it 16838 times
        promise(9, "scatter", "set(0,100) scatter(1,500)=438 set(0,0) scatter(1,10)=8");
        promise(10, "set", "text(ab/cd) read() set(3,999)=30 set(3,5)=999 height(3)=5 height(1)=10 set(1,7)=10");
        promise(12, "rows", "begin(4,5) rows()=4");
        promise(13, "columns", "begin(4,5) columns()=5");
        promise(14, "height", "begin(2,2) set(2,77) all(height)=0,0,77,0");
    }

    private static void changes() {
        promise(11, "one by one", "land(ab/cd)=4 set(3,999)=30 set(3,5)=999 undo()=2 height(3)=999 undo()=1 height(3)=30 "
                + "undo()=0 rows()=1 columns()=1 height(0)=0 undo()=-1");
        promise(11, "a change behind an undone one", "land(ab/cd)=4 set(0,1) set(0,2) undo()=2 set(0,3) height(0)=3 "
                + "undo()=2 height(0)=1 undo()=1 height(0)=0");
        promise(11, "grounds", "profile() begin(2,3) begin(2,3) ground(1,0) undo()=1 groundOf(1)=0 undo()=0 begin(2,3) "
                + "groundOf(1)=-1");
    }

    private static void levelsAndDrains() {
        promise(15, "level", HOLLOW + "level(5)=40 level(10)=40 level(13)=40 level(0)=90 set(9,50) level(5)=50 undo() "
                + "level(5)=40");
        promise(16, "drain", HOLLOW + "drain(9)=13 drain(5)=9 drain(10)=9 drain(6)=5 drain(0)=-1");
        promise(17, "outlet", HOLLOW + "outlet(6)=13 outlet(9)=13 outlet(3)=3");
        promise(18, "gathers", HOLLOW + "gathers(13)=5 gathers(9)=4 gathers(5)=2 gathers(6)=1");
    }

    private static void streams() {
        promise(19, "rank", HOLLOW + "rank(6)=1 rank(5)=1 rank(10)=1 rank(9)=2 rank(13)=2");
        promise(20, "length", HOLLOW + "length(6)=0 length(5)=1 length(9)=2 length(13)=3 length(0)=0");
        String two = "land(zzzzzzz/zxxxxxz/zxcbcxz/zxxaxxz/zzzazzz) ";
        promise(19, "two arms of rank 2 and one of rank 1 more", two + "rank(16)=2 rank(18)=2 rank(17)=3 rank(24)=3 "
                + "rank(31)=3");
        promise(20, "the longest way", two + "length(31)=5");
        promise(18, "all inner cells and itself", two + "gathers(31)=16");
    }

    private static void sillsAndLakes() {
        promise(21, "sill", "land(akc/blz/daz) sill(4,4)=110 sill(0,1)=100 sill(1,0)=100 sill(0,7)=30 sill(7,2)=100 "
                + "sill(6,8)=250");
        String three = "land(kkkkk/kakbk/kakkk/kkfck/kkekk) ";
        promise(22, "lakes", three + "lakes()=3");
        promise(23, "lakeOf", three + "lakeOf(6)=0 lakeOf(11)=0 lakeOf(8)=1 lakeOf(18)=2 lakeOf(17)=-1");
        promise(24, "level", three + "lakeAt(0,0)=100 lakeAt(1,0)=100 lakeAt(2,0)=50");
        promise(24, "how many cells", three + "lakeAt(0,1)=2 lakeAt(1,1)=1 lakeAt(2,1)=1");
        promise(24, "the sum of depths", three + "lakeAt(0,2)=200 lakeAt(1,2)=90 lakeAt(2,2)=30");
        promise(24, "the spill", three + "lakeAt(0,3)=1 lakeAt(1,3)=3 lakeAt(2,3)=17");
        promise(48, "lakeShare", three + "lakeShare()=0.16 begin(3,3) lakeShare()=0.0");
        promise(47, "meanHeight", "begin(3,3) slope(100,3,7) meanHeight()=110.0 set(8,121) meanHeight()=" + 991.0 / 9.0);
    }

    private static void floods() {
        promise(25, "wet", "land(fff/faf/fff) wet(50)=0 wet(51)=9 set(4,60) wet(60)=8 wet(61)=9");
        promise(26, "isWet", "land(fff/faf/fff) isWet(50,4)=false isWet(51,4)=true isWet(51,0)=true set(4,60) "
                + "isWet(60,4)=false isWet(61,4)=true");
    }

    private static void walls() {
        promise(27, "four dams", "land(fff/faf/fff) wallCost(50,4)=0 wallCost(60,4)=40 wallCost(1000,4)=3800");
        promise(28, "four dams", "land(fff/faf/fff) dams(60,4)=1,3,5,7 dams(50,4)=none");
        String four = "land(fff/faf/fff) set(1,59) set(3,60) set(5,61) ";
        promise(27, "what is above needs no dam", four + "wallCost(60,4)=11 wallCost(59,4)=9 undo() wallCost(61,4)=25");
        promise(28, "what is above needs no dam", four + "dams(60,4)=1,7 dams(59,4)=7 undo() dams(60,4)=1,5,7");
        String gate = "land(zzzzz/zaaaz/zaaaz/zaaaz/zzyzz) ";
        promise(27, "a gate", gate + "wallCost(250,6)=10 wallCost(245,17)=5");
        promise(28, "a gate", gate + "dams(250,6)=22 dams(245,17)=22");
        promise(28, "the nearest of three gates alike", "land(zzzzz/zaaaz/zayyz/zyzzz/zyzzz) wallCost(250,6)=10 "
                + "dams(250,6)=16");
    }

    /** Lands where flow that was sent must be led another way, and one cell's part of it be taken back. */
    private static void wallsInWideLand() {
        promise(27, "wide land", "begin(8,8) scatter(32337045,4) wallCost(3,37)=4");
        promise(27, "wide land", "begin(7,8) scatter(988922067,50) wallCost(35,29)=47");
        promise(27, "wide land", "begin(10,6) scatter(538572820,500) wallCost(402,25)=1188");
        promise(27, "wide land", "begin(10,9) scatter(412131914,50) wallCost(44,23)=75");
        promise(27, "wide land", "begin(9,7) scatter(300450050,500) wallCost(503,31)=1111");
        promise(27, "wide land", "begin(7,5) scatter(1057290144,5) wallCost(4,21)=10");
        promise(46, "wide land", "begin(9,9) scatter(304155450,10) errors(8)=0 errors(9)=0");
    }

    private static void soils() {
        promise(29, "nameOf", "nameOf(60,20)=0 nameOf(10,85)=1 nameOf(5,5)=2 nameOf(30,30)=3 nameOf(10,60)=4 "
                + "nameOf(10,30)=5 nameOf(20,40)=6");
        promise(30, "profile", "profile()=0 profile()=1 layerAt(1,0,0)=1 layerAt(1,0,1)=100 layerAt(1,0,4)=0");
        promise(31, "layer", "profile() layer(0,50,0,80)=2 layer(0,1,0,0)=3 layer(0,2,30,30)=4 layer(0,3,10,50)=5");
        promise(32, "layerAt", "profile() layer(0,2,30,25)=2 layerAt(0,1,0)=2 layerAt(0,1,1)=30 layerAt(0,1,2)=25 "
                + "layerAt(0,1,3)=45 layerAt(0,1,4)=3");
        promise(33, "holds", "2*profile() layer(0,50,0,80) layer(0,1,0,0) layer(0,2,30,30) layer(0,3,10,50) holds(0)=172 "
                + "layer(1,1,0,48) layer(1,10,20,40) holds(1)=36");
        promise(34, "mixed", "profile() layer(0,4,0,50) mixed(0,0)=200 mixed(0,1)=400 mixed(0,2)=400");
        promise(34, "what lacks", "profile() layer(0,6,1,49) mixed(0,0)=151 mixed(0,1)=420 mixed(0,2)=429");
    }

    private static void grounds() {
        String hollow = "land(zzz/zaz/zzz) 2*profile() ";
        promise(35, "ground", hollow + "ground(4,1)=-1 ground(4,0)=1 layer(1,1,0,0)=2 ground(4,-1)=0 ground(4,0)=-1 "
                + "pour(4,5) ground(4,0)=0 step(1)=1 ground(4,-1)!S sun(100)=5 ground(4,-1)=0");
        promise(36, "groundOf", hollow + "groundOf(4)=-1 ground(4,1) groundOf(4)=1 groundOf(3)=-1");
    }

    private static void flowing() {
        promise(39, "half the difference, rounded up, and on in its turn", "land(zzzzz/zaabz/zzzzz) pour(6,5) step(1)=1 "
                + "stands()=0,0,0,0,0,0,3,2,0,0,0,0,0,0,0");
        promise(39, "all, if it is less", "land(zzzz/zyaz/zzzz) pour(5,7) step(1)=1 water(5,false)=0 water(6,false)=7");
        promise(39, "the lowest neighbour", "land(zzzzz/zzzzz/zfkez/zzzzz/zzzzz) pour(12,10) step(1)=1 "
                + "water(11,false)=0 water(13,false)=10");
        promise(39, "out by the rim", "begin(5,5) slope(50,0,0) set(12,100) pour(12,10) step(1)=1 water(7,false)=5 "
                + "total(4)=5");
    }

    private static void soaking() {
        promise(39, "into the ground, and below", "land(zzzz/zaaz/zzzz) profile() layer(0,2,0,0) holds(0)=6 ground(5,0) "
                + "ground(6,0) pour(5,20) pour(6,20) step(1)=1 water(5,true)=1 water(6,true)=1 step(2)=2 water(5,true)=3 "
                + "total(5)=0 step(1)=1 water(5,true)=3 total(5)=2 totals()=40,32,6,0,0,2");
        promise(39, "until nothing stands", "land(zzz/zaz/zzz) profile() ground(4,0) pour(4,3) step(50)=3 "
                + "totals()=3,0,2,0,0,1");
    }

    private static void rainAndSun() {
        promise(37, "rain", "begin(2,3) rain(1)=6 rain(1000)=6006 stands()=1001,1001,1001,1001,1001,1001");
        promise(38, "pour", "begin(2,3) pour(2,100)=100 pour(0,1)=101 stands()=1,0,100,0,0,0");
        String both = "land(zzz/zaz/zzz) profile() ground(4,0) pour(4,4) step(2)=2 pour(0,1) ";
        promise(40, "sun", both + "sun(1)=2 water(4,false)=1 water(4,true)=2 sun(2)=2 water(4,false)=0 water(4,true)=1 "
                + "sun(100)=1 sun(100)=0");
        promise(41, "water", both + "water(4,false)=2 water(4,true)=2 water(0,false)=1 water(0,true)=0");
        promise(42, "total", both + "sun(1)=2 totals()=5,1,2,2,0,0 step(1)=1 totals()=5,0,2,2,0,1");
    }

    private static void maps() {
        promise(43, "drains", HOLLOW + "page(0)=oooo/oSWo/oSWo/oooo");
        promise(43, "ranks", HOLLOW + "page(1)=1111/1111/1211/1211");
        promise(43, "lakes", HOLLOW + "write(2)=19 page(2)=..../.aa./.aa./....");
        promise(44, "pageAt", HOLLOW + "write(2)=19 pageAt(4)=47 pageAt(5)=46 pageAt(6)=97 begin(1,1) pageAt(18)=46");
        long sum = 7;
        int[] levels = {100, 107, 114, 103, 110, 117, 106, 113, 120};
        for (int cell = 0; cell < 9; cell++) {
            sum = (sum * 31 + levels[cell]) * 31 + (cell == 4 ? 3 : ClaySurvey.NONE);
        }
        promise(45, "digest", "begin(3,3) slope(100,3,7) digest()=" + sum);
    }

    private static void theorem() {
        for (int seed = 0; seed < 300; seed++) {
            promise(46, "errors", "begin(" + (1 + seed % 10) + "," + (1 + seed / 10 % 10) + ") scatter(" + seed + ","
                    + (1 + seed % 37) + ") errors(0)=0 errors(7)=0 errors(14)=0 errors(21)=0 errors(35)=0 rain(3) step(2) "
                    + "errors(1000)=0 sun(2) errors(3)=0");
        }
    }
}
