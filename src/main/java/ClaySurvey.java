import java.util.ArrayList;
import java.util.Arrays;
import java.util.NoSuchElementException;

/**
 * A survey of a land of clay, silt and sand. The outer class is the document's face: it looks at what a call
 * brings and hands it on; the classes inside do the work, each on rows that are made once and used again.
 */
public final class ClaySurvey {
    public static final int NONE = -1;

    private static final int MOST_SIDE = 10;
    private static final int MOST_CELLS = MOST_SIDE * MOST_SIDE;
    private static final int MOST_HEIGHT = 999;
    private static final int MOST_LEVEL = 1000;
    private static final int MOST_SLOPE = 99;
    private static final int MOST_RANGE = 500;
    private static final int MOST_TEXT = 200;
    private static final int MOST_PAGE = MOST_CELLS + MOST_SIDE - 1;
    private static final int MOST_UNDONE = 8;
    private static final int MOST_PROFILES = 6;
    private static final int MOST_LAYERS = 5;
    private static final int MOST_THICKNESS = 50;
    private static final int MOST_RAIN = 1000;
    private static final int MOST_POURED = 100000;
    private static final int MOST_STEPS = 50;
    private static final int MOST_SUN = 100;
    private static final int LAST_LAKE_SIGN = 25;
    private static final int SIDES = 4;
    private static final int WHOLE = 100;
    private static final int MOST_INT = 0x7fffffff;

    private final Text text = new Text();
    private final Land land = new Land();
    private final History history = new History();
    private final Streams streams = new Streams();
    private final Lakes pools = new Lakes();
    private final Spread ways = new Spread();
    private final Wall wall = new Wall();
    private final Soils soils = new Soils();
    private final Weather weather = new Weather();
    private final int[] page = new int[MOST_PAGE];
    private final Theorem theorem = new Theorem();
    private int pageLength;
    private int surveyed = NONE;

    public ClaySurvey() {
    }

    // ---- the text ----

    public int type(long bytes) throws IllegalStateException {
        if (text.length + Text.signsIn(bytes) > MOST_TEXT) {
            throw new IllegalStateException("the text would be too long");
        }
        text.append(bytes);
        return text.length;
    }

    public int clearText() {
        int before = text.length;
        text.length = 0;
        return before;
    }

    public int errorKind() {
        text.check();
        return text.kind;
    }

    public int errorPlace() {
        text.check();
        return text.place;
    }

    // ---- the land ----

    public int read() throws IllegalStateException {
        text.check();
        if (text.kind != 0) {
            throw new IllegalStateException("the text has an error");
        }
        needDry();
        history.keep(land);
        soils.takeAway();
        land.resize(text.rows, text.columns);
        text.copyHeights(land);
        return land.cells;
    }

    public int begin(int rows, int columns) throws IllegalArgumentException, IllegalStateException {
        needRange(rows, 1, MOST_SIDE);
        needRange(columns, 1, MOST_SIDE);
        needDry();
        history.keep(land);
        soils.takeAway();
        land.resize(rows, columns);
        return land.cells;
    }

    public int slope(int base, int byRow, int byColumn) throws IllegalArgumentException {
        needRange(base, 0, MOST_HEIGHT);
        needRange(byRow, -MOST_SLOPE, MOST_SLOPE);
        needRange(byColumn, -MOST_SLOPE, MOST_SLOPE);
        // an even slope is least and greatest in corners
        int lastRow = byRow * (land.rows - 1);
        int lastColumn = byColumn * (land.columns - 1);
        needRange(base + Math.min(lastRow, 0) + Math.min(lastColumn, 0), 0, MOST_HEIGHT);
        int greatest = base + Math.max(lastRow, 0) + Math.max(lastColumn, 0);
        needRange(greatest, 0, MOST_HEIGHT);
        history.keep(land);
        land.incline(base, byRow, byColumn);
        return greatest;
    }

    public int scatter(int seed, int range) throws IllegalArgumentException {
        needRange(seed, 0, MOST_INT);
        needRange(range, 1, MOST_RANGE);
        history.keep(land);
        land.roughen(seed, range);
        return land.sumOfHeights();
    }

    public int set(int cell, int height) throws IndexOutOfBoundsException, IllegalArgumentException {
        needCell(cell);
        needRange(height, 0, MOST_HEIGHT);
        int before = land.heights[cell];
        history.keep(land);
        land.raise(cell, height);
        return before;
    }

    public int undo() throws IllegalStateException {
        if (history.count == 0) {
            return NONE;
        }
        if (history.hasOtherSize(land)) {
            needDry();
            soils.takeAway();
        }
        history.bringBack(land);
        return history.count;
    }

    public int rows() {
        return land.rows;
    }

    public int columns() {
        return land.columns;
    }

    public int height(int cell) throws IndexOutOfBoundsException {
        needCell(cell);
        return land.heights[cell];
    }

    // ---- levels, drains and streams ----

    public int level(int cell) throws IndexOutOfBoundsException {
        needCell(cell);
        survey();
        return streams.spread.levels[cell];
    }

    public int drain(int cell) throws IndexOutOfBoundsException {
        needCell(cell);
        survey();
        return streams.spread.from[cell];
    }

    public int outlet(int cell) throws IndexOutOfBoundsException {
        needCell(cell);
        survey();
        return streams.outlets[cell];
    }

    public int gathers(int cell) throws IndexOutOfBoundsException {
        needCell(cell);
        survey();
        return streams.gathered[cell];
    }

    public int rank(int cell) throws IndexOutOfBoundsException {
        needCell(cell);
        survey();
        return streams.ranks[cell];
    }

    public int length(int cell) throws IndexOutOfBoundsException {
        needCell(cell);
        survey();
        return streams.lengths[cell];
    }

    public int sill(int one, int other) throws IndexOutOfBoundsException {
        needCell(one);
        needCell(other);
        ways.fromCell(land, one);
        return ways.levels[other];
    }

    // ---- lakes ----

    public int lakes() {
        survey();
        return pools.count;
    }

    public int lakeOf(int cell) throws IndexOutOfBoundsException {
        needCell(cell);
        survey();
        return pools.numbers[cell];
    }

    public int lakeAt(int lake, int what) throws IndexOutOfBoundsException, IllegalArgumentException {
        survey();
        needIndex(lake, pools.count);
        needRange(what, 0, 3);
        int first = pools.firstTaken(lake, land, streams.spread);
        switch (what) {
            case 0:
                return streams.spread.levels[first];
            case 1:
                return pools.sizeOf(lake, land);
            case 2:
                return pools.depthOf(lake, land, streams.spread);
            default:
                return streams.spread.from[first];
        }
    }

    // ---- floods and dams ----

    public int wet(int level) throws IllegalArgumentException {
        needRange(level, 0, MOST_LEVEL);
        survey();
        int count = 0;
        for (int cell = 0; cell < land.cells; cell++) {
            if (streams.isUnder(level, cell)) {
                count++;
            }
        }
        return count;
    }

    public boolean isWet(int level, int cell) throws IllegalArgumentException, IndexOutOfBoundsException {
        needRange(level, 0, MOST_LEVEL);
        needCell(cell);
        survey();
        return streams.isUnder(level, cell);
    }

    public int wallCost(int level, int place)
            throws IllegalArgumentException, IndexOutOfBoundsException, NoSuchElementException {
        needRange(level, 0, MOST_LEVEL);
        needCell(place);
        return buildWall(level, place) ? wall.cost : 0;
    }

    public boolean isDam(int level, int place, int cell)
            throws IllegalArgumentException, IndexOutOfBoundsException, NoSuchElementException {
        needRange(level, 0, MOST_LEVEL);
        needCell(place);
        needCell(cell);
        return buildWall(level, place) && wall.dams[cell];
    }

    // ---- soils ----

    public int nameOf(int clay, int silt) throws IllegalArgumentException {
        needShares(clay, silt);
        return Profile.soilOf(clay, silt);
    }

    public int profile() throws IllegalStateException {
        if (soils.profiles.size() >= MOST_PROFILES) {
            throw new IllegalStateException("there are all profiles that can be");
        }
        return soils.makeProfile();
    }

    public int layer(int profile, int thickness, int clay, int silt)
            throws IndexOutOfBoundsException, IllegalArgumentException, IllegalStateException {
        needIndex(profile, soils.profiles.size());
        needRange(thickness, 1, MOST_THICKNESS);
        needShares(clay, silt);
        Profile chosen = soils.profiles.get(profile);
        if (chosen.layers >= MOST_LAYERS || soils.isUsed(profile)) {
            throw new IllegalStateException("the profile takes no more layers");
        }
        chosen.addLayer(thickness, clay, silt);
        return chosen.layers;
    }

    public int layerAt(int profile, int layer, int what) throws IndexOutOfBoundsException, IllegalArgumentException {
        needIndex(profile, soils.profiles.size());
        Profile chosen = soils.profiles.get(profile);
        needIndex(layer, chosen.layers);
        needRange(what, 0, 4);
        switch (what) {
            case 0:
                return chosen.thickness[layer];
            case 4:
                return chosen.soilAt(layer);
            default:
                return chosen.shareAt(layer, what - 1);
        }
    }

    public int holds(int profile) throws IndexOutOfBoundsException {
        needIndex(profile, soils.profiles.size());
        return soils.profiles.get(profile).room;
    }

    public int mixed(int profile, int what) throws IndexOutOfBoundsException, IllegalArgumentException {
        needIndex(profile, soils.profiles.size());
        needRange(what, 0, 2);
        return soils.profiles.get(profile).permille(what);
    }

    public int ground(int cell, int profile) throws IndexOutOfBoundsException, IllegalStateException {
        needCell(cell);
        if (profile != NONE) {
            needIndex(profile, soils.profiles.size());
        }
        if (weather.soaked[cell] > 0) {
            throw new IllegalStateException("water is in the ground");
        }
        int before = soils.grounds[cell];
        soils.grounds[cell] = profile;
        return before;
    }

    public int groundOf(int cell) throws IndexOutOfBoundsException {
        needCell(cell);
        return soils.grounds[cell];
    }

    // ---- water ----

    public long rain(int units) throws IllegalArgumentException {
        needRange(units, 1, MOST_RAIN);
        for (int cell = 0; cell < land.cells; cell++) {
            weather.bring(cell, units);
        }
        return weather.came;
    }

    public long pour(int cell, int units) throws IndexOutOfBoundsException, IllegalArgumentException {
        needCell(cell);
        needRange(units, 1, MOST_POURED);
        weather.bring(cell, units);
        return weather.came;
    }

    public int step(int steps) throws IllegalArgumentException {
        needRange(steps, 1, MOST_STEPS);
        return weather.goOn(land, soils, steps);
    }

    public long sun(int units) throws IllegalArgumentException {
        needRange(units, 1, MOST_SUN);
        return weather.dryUp(land, units);
    }

    public int water(int cell, boolean isInGround) throws IndexOutOfBoundsException {
        needCell(cell);
        return isInGround ? weather.soaked[cell] : weather.standing[cell];
    }

    public long total(int what) throws IllegalArgumentException {
        needRange(what, 0, 5);
        switch (what) {
            case 0:
                return weather.came;
            case 1:
                return weather.sumOf(weather.standing);
            case 2:
                return weather.sumOf(weather.soaked);
            case 3:
                return weather.rose;
            case 4:
                return weather.ranOut;
            default:
                return weather.sank;
        }
    }

    // ---- maps, digest and checks ----

    public int write(int what) throws IllegalArgumentException {
        needRange(what, 0, 2);
        survey();
        pageLength = 0;
        for (int cell = 0; cell < land.cells; cell++) {
            if (cell > 0 && land.isWestmost(cell)) {
                putOnPage('/');
            }
            putOnPage(signOf(what, cell));
        }
        return pageLength;
    }

    public int pageAt(int index) throws IndexOutOfBoundsException {
        needIndex(index, pageLength);
        return page[index];
    }

    public long digest() {
        survey();
        long sum = 7;
        for (int cell = 0; cell < land.cells; cell++) {
            sum = sum * 31 + streams.spread.levels[cell];
            sum = sum * 31 + streams.spread.from[cell];
        }
        return sum;
    }

    public int errors(int level) throws IllegalArgumentException {
        needRange(level, 0, MOST_LEVEL);
        survey();
        int failed = theorem.failedOnLand(land, streams) + theorem.failedOnWater(weather);
        int middle = land.middle();
        if (streams.isUnder(level, middle) && !land.rim[middle]) {
            wall.build(land, level, middle);
            failed += theorem.failedOnWall(land, wall);
        }
        return failed;
    }

    public double meanHeight() {
        if (land.cells < 1) {
            return 0.0;
        }
        return (double) land.sumOfHeights() / (double) land.cells;
    }

    public float lakeShare() {
        if (land.cells < 1) {
            return 0.0f;
        }
        survey();
        return (float) pools.cellsIn(land) / (float) land.cells;
    }

    // ---- what calls ask before they do anything ----

    private static void needRange(int number, int least, int most) {
        if (number < least || number > most) {
            throw new IllegalArgumentException("a parameter is out of range");
        }
    }

    private static void needIndex(int index, int count) {
        if (index < 0 || index >= count) {
            throw new IndexOutOfBoundsException("there is no such thing");
        }
    }

    private static void needShares(int clay, int silt) {
        needRange(clay, 0, WHOLE);
        needRange(silt, 0, WHOLE - clay);
    }

    private void needCell(int cell) {
        needIndex(cell, land.cells);
    }

    private void needDry() {
        if (weather.sumOf(weather.standing) > 0 || weather.sumOf(weather.soaked) > 0) {
            throw new IllegalStateException("there is water");
        }
    }

    // ---- what calls share ----

    /** Brings levels, drains and lakes up to the land as it is now. */
    private void survey() {
        if (surveyed == land.version) {
            return;
        }
        streams.follow(land);
        pools.find(land, streams.spread);
        surveyed = land.version;
    }

    /** Builds the wall, if the place is wet; answers whether it is. */
    private boolean buildWall(int level, int place) {
        survey();
        if (!streams.isUnder(level, place)) {
            return false;
        }
        if (land.rim[place]) {
            throw new NoSuchElementException("no wall keeps the rim dry");
        }
        wall.build(land, level, place);
        return true;
    }

    private void putOnPage(int sign) {
        if (pageLength < MOST_PAGE) {
            page[pageLength] = sign;
            pageLength++;
        }
    }

    private int signOf(int what, int cell) {
        switch (what) {
            case 0:
                return drainSign(cell);
            case 1:
                return '0' + streams.ranks[cell];
            default:
                int lake = pools.numbers[cell];
                return lake == NONE ? '.' : 'a' + Math.min(lake, LAST_LAKE_SIGN);
        }
    }

    private int drainSign(int cell) {
        switch (land.sideOf(cell, streams.spread.from[cell])) {
            case 0:
                return 'N';
            case 1:
                return 'E';
            case 2:
                return 'S';
            case 3:
                return 'W';
            default:
                return 'o';
        }
    }

    /** The text and its first error as a land. */
    private static final class Text {
        final int[] signs = new int[MOST_TEXT];
        int length;
        int kind;
        int place = NONE;
        int rows;
        int columns;

        static int signsIn(long bytes) {
            int count = 0;
            for (int shift = 56; shift >= 0; shift -= 8) {
                if ((bytes >>> shift & 255) != 0) {
                    count++;
                }
            }
            return count;
        }

        void append(long bytes) {
            for (int shift = 56; shift >= 0; shift -= 8) {
                int sign = (int) (bytes >>> shift & 255);
                if (sign != 0 && length < signs.length) {
                    signs[length] = sign;
                    length++;
                }
            }
        }

        /** Finds the first error, or else how many rows and columns the text has. */
        void check() {
            kind = 0;
            place = NONE;
            rows = 1;
            columns = 0;
            int letters = 0;
            for (int at = 0; at < length && kind == 0; at++) {
                int found = signs[at] == '/' ? errorAtEnd(letters, true) : errorAtLetter(signs[at], letters);
                if (found != 0) {
                    tell(found, at);
                } else if (signs[at] == '/') {
                    endRow(letters);
                    rows++;
                    letters = 0;
                } else {
                    letters++;
                }
            }
            if (kind == 0) {
                tell(errorAtEnd(letters, false), length);
                endRow(letters);
            }
        }

        private void tell(int found, int at) {
            kind = found;
            place = found == 0 ? NONE : at;
        }

        private void endRow(int letters) {
            if (rows == 1) {
                columns = letters;
            }
        }

        // the least kind is asked first: of several at one place it is the one to tell
        private int errorAtLetter(int sign, int letters) {
            if (sign < 'a' || sign > 'z') {
                return 1;
            }
            if (letters >= MOST_SIDE) {
                return 2;
            }
            return rows > 1 && letters >= columns ? 3 : 0;
        }

        private int errorAtEnd(int letters, boolean isMoreToCome) {
            if (letters == 0) {
                return 1;
            }
            if (isMoreToCome && rows >= MOST_SIDE) {
                return 2;
            }
            return rows > 1 && letters < columns ? 3 : 0;
        }

        /** Gives the land, which has the text's size, the heights of the letters. */
        void copyHeights(Land land) {
            int cell = 0;
            for (int at = 0; at < length; at++) {
                if (signs[at] != '/' && cell < land.cells) {
                    land.raise(cell, (signs[at] - 'a') * 10);
                    cell++;
                }
            }
        }
    }

    /** The size and the heights, and which cells lie beside which. */
    private static final class Land {
        final int[] heights = new int[MOST_CELLS];
        final int[] beside = new int[MOST_CELLS * SIDES];
        final boolean[] rim = new boolean[MOST_CELLS];
        int rows;
        int columns;
        int cells;
        /** Another number after each change, by which the others see that what they know is old. */
        int version;

        Land() {
            resize(1, 1);
        }

        void resize(int newRows, int newColumns) {
            rows = newRows;
            columns = newColumns;
            cells = newRows * newColumns;
            Arrays.fill(heights, 0);
            for (int row = 0; row < rows; row++) {
                for (int column = 0; column < columns; column++) {
                    int cell = row * columns + column;
                    int first = cell * SIDES;
                    beside[first] = row > 0 ? cell - columns : NONE;
                    beside[first + 1] = column + 1 < columns ? cell + 1 : NONE;
                    beside[first + 2] = row + 1 < rows ? cell + columns : NONE;
                    beside[first + 3] = column > 0 ? cell - 1 : NONE;
                    rim[cell] = row == 0 || column == 0 || row + 1 == rows || column + 1 == columns;
                }
            }
            version++;
        }

        void raise(int cell, int height) {
            heights[cell] = height;
            version++;
        }

        void incline(int base, int byRow, int byColumn) {
            for (int row = 0; row < rows; row++) {
                for (int column = 0; column < columns; column++) {
                    heights[row * columns + column] = base + byRow * row + byColumn * column;
                }
            }
            version++;
        }

        void roughen(int seed, int range) {
            int drawn = seed;
            for (int cell = 0; cell < cells && range > 0; cell++) {
                // the mask is the modulo 2^31, and int's own wrap-around above it does no harm
                drawn = drawn * 1103515245 + 12345 & MOST_INT;
                heights[cell] = Math.min(heights[cell] + drawn / 65536 % range, MOST_HEIGHT);
            }
            version++;
        }

        int sumOfHeights() {
            int sum = 0;
            for (int cell = 0; cell < cells; cell++) {
                sum += heights[cell];
            }
            return sum;
        }

        int middle() {
            return rows / 2 * columns + columns / 2;
        }

        boolean isWestmost(int cell) {
            return beside[cell * SIDES + 3] == NONE;
        }

        /** The side of a cell on which another one lies; NONE if it lies on no side. */
        int sideOf(int cell, int other) {
            for (int side = 0; side < SIDES && other != NONE; side++) {
                if (beside[cell * SIDES + side] == other) {
                    return side;
                }
            }
            return NONE;
        }
    }

    /** The sizes and heights before the latest changes, in a ring. */
    private static final class History {
        final int[] rows = new int[MOST_UNDONE];
        final int[] columns = new int[MOST_UNDONE];
        final int[][] heights = new int[MOST_UNDONE][MOST_CELLS];
        int count;
        int latest;

        void keep(Land land) {
            latest = latest + 1 < MOST_UNDONE ? latest + 1 : 0;
            rows[latest] = land.rows;
            columns[latest] = land.columns;
            System.arraycopy(land.heights, 0, heights[latest], 0, MOST_CELLS);
            count = Math.min(count + 1, MOST_UNDONE);
        }

        boolean hasOtherSize(Land land) {
            return rows[latest] != land.rows || columns[latest] != land.columns;
        }

        void bringBack(Land land) {
            land.resize(rows[latest], columns[latest]);
            System.arraycopy(heights[latest], 0, land.heights, 0, MOST_CELLS);
            latest = latest > 0 ? latest - 1 : MOST_UNDONE - 1;
            count--;
        }
    }

    /** Cells reached one by another, the lowest way first: from the rim for levels, from a cell for sills. */
    private static final class Spread {
        final int[] levels = new int[MOST_CELLS];
        final int[] from = new int[MOST_CELLS];
        final int[] order = new int[MOST_CELLS];
        private final boolean[] reached = new boolean[MOST_CELLS];
        private final boolean[] taken = new boolean[MOST_CELLS];

        void fromRim(Land land) {
            forgetAll();
            for (int cell = 0; cell < land.cells; cell++) {
                if (land.rim[cell]) {
                    reach(land, cell, 0, NONE);
                }
            }
            takeAll(land);
        }

        void fromCell(Land land, int start) {
            forgetAll();
            reach(land, start, 0, NONE);
            takeAll(land);
        }

        private void forgetAll() {
            for (int cell = 0; cell < MOST_CELLS; cell++) {
                reached[cell] = false;
                taken[cell] = false;
            }
        }

        private void reach(Land land, int cell, int least, int by) {
            reached[cell] = true;
            levels[cell] = Math.max(land.heights[cell], least);
            from[cell] = by;
        }

        private void takeAll(Land land) {
            for (int turn = 0; turn < land.cells; turn++) {
                int cell = lowest(land.cells);
                if (cell == NONE) {
                    return;
                }
                taken[cell] = true;
                order[turn] = cell;
                for (int side = 0; side < SIDES; side++) {
                    int other = land.beside[cell * SIDES + side];
                    if (other != NONE && !reached[other]) {
                        reach(land, other, levels[cell], cell);
                    }
                }
            }
        }

        private int lowest(int cells) {
            int best = NONE;
            for (int cell = 0; cell < cells; cell++) {
                if (reached[cell] && !taken[cell] && (best == NONE || levels[cell] < levels[best])) {
                    best = cell;
                }
            }
            return best;
        }
    }

    /** What the drains make: outlets, catchments, ranks and lengths. */
    private static final class Streams {
        final Spread spread = new Spread();
        final int[] outlets = new int[MOST_CELLS];
        final int[] gathered = new int[MOST_CELLS];
        final int[] ranks = new int[MOST_CELLS];
        final int[] lengths = new int[MOST_CELLS];
        private final boolean[] paired = new boolean[MOST_CELLS];

        void follow(Land land) {
            spread.fromRim(land);
            for (int turn = 0; turn < land.cells; turn++) {
                int cell = spread.order[turn];
                int drain = spread.from[cell];
                outlets[cell] = drain == NONE ? cell : outlets[drain];
                gathered[cell] = 1;
                ranks[cell] = 0;
                lengths[cell] = 0;
                paired[cell] = false;
            }
            // a drain is taken before what drains to it: from the last one taken, each cell is whole when its turn comes
            for (int turn = land.cells - 1; turn >= 0; turn--) {
                finish(spread.order[turn]);
            }
        }

        private void finish(int cell) {
            if (ranks[cell] == 0 || paired[cell]) {
                ranks[cell]++;
            }
            int drain = spread.from[cell];
            if (drain == NONE) {
                return;
            }
            gathered[drain] += gathered[cell];
            lengths[drain] = Math.max(lengths[drain], lengths[cell] + 1);
            if (ranks[cell] > ranks[drain]) {
                ranks[drain] = ranks[cell];
                paired[drain] = false;
            } else if (ranks[cell] == ranks[drain]) {
                paired[drain] = true;
            }
        }

        /** Whether a cell is wet in a flood: its level is the least height that a way from the rim must pass. */
        boolean isUnder(int flood, int cell) {
            return spread.levels[cell] < flood;
        }
    }

    /** The lakes, numbered from their least cells on. */
    private static final class Lakes {
        final int[] numbers = new int[MOST_CELLS];
        int count;
        private final int[] found = new int[MOST_CELLS];

        void find(Land land, Spread spread) {
            Arrays.fill(numbers, NONE);
            count = 0;
            for (int cell = 0; cell < land.cells; cell++) {
                if (numbers[cell] == NONE && isDeep(cell, land, spread)) {
                    fill(cell, land, spread);
                    count++;
                }
            }
        }

        private void fill(int start, Land land, Spread spread) {
            numbers[start] = count;
            found[0] = start;
            int size = 1;
            for (int at = 0; at < size && at < MOST_CELLS; at++) {
                for (int side = 0; side < SIDES; side++) {
                    int other = land.beside[found[at] * SIDES + side];
                    if (other != NONE && numbers[other] == NONE && isDeep(other, land, spread)
                            && spread.levels[other] == spread.levels[start] && size < MOST_CELLS) {
                        numbers[other] = count;
                        found[size] = other;
                        size++;
                    }
                }
            }
        }

        private static boolean isDeep(int cell, Land land, Spread spread) {
            return spread.levels[cell] > land.heights[cell];
        }

        int firstTaken(int lake, Land land, Spread spread) {
            for (int turn = 0; turn < land.cells; turn++) {
                if (numbers[spread.order[turn]] == lake) {
                    return spread.order[turn];
                }
            }
            return 0;
        }

        int sizeOf(int lake, Land land) {
            int size = 0;
            for (int cell = 0; cell < land.cells; cell++) {
                if (numbers[cell] == lake) {
                    size++;
                }
            }
            return size;
        }

        int cellsIn(Land land) {
            return land.cells - sizeOf(NONE, land);
        }

        int depthOf(int lake, Land land, Spread spread) {
            int sum = 0;
            for (int cell = 0; cell < land.cells; cell++) {
                if (numbers[cell] == lake) {
                    sum += spread.levels[cell] - land.heights[cell];
                }
            }
            return sum;
        }
    }

    /**
     * The cheapest wall, by the most that can flow through the cells, each of which lets as much through as a
     * dam on it costs. The flow is sent from the place to the rim: then what the last search still comes to
     * from the place is as small as can be, and the dams that bound it are the wall that the document means.
     * A cell has two nodes, its way in (2 * cell) and its way out (2 * cell + 1).
     */
    private static final class Wall {
        private static final int NODES = MOST_CELLS * 2;
        /** Each path sends one unit at least, and no more than the dams round the place let through. */
        private static final int MOST_PATHS = SIDES * MOST_LEVEL;

        final boolean[] dams = new boolean[MOST_CELLS];
        int cost;
        int flow;
        int level = NONE;
        int place = NONE;
        private int version = NONE;
        private final int[] between = new int[MOST_CELLS * SIDES];
        private final int[] through = new int[MOST_CELLS];
        private final int[] cameBy = new int[NODES];
        private final int[] edges = new int[NODES];
        private final int[] queue = new int[NODES];
        private int queued;

        void build(Land land, int newLevel, int newPlace) {
            if (version == land.version && level == newLevel && place == newPlace) {
                return;
            }
            version = land.version;
            level = newLevel;
            place = newPlace;
            flow = 0;
            Arrays.fill(between, 0);
            Arrays.fill(through, 0);
            int end = search(land);
            for (int paths = 0; paths < MOST_PATHS && end != NONE; paths++) {
                int units = roomTo(land, end);
                send(end, units);
                flow += units;
                end = search(land);
            }
            putDams(land);
        }

        private void putDams(Land land) {
            cost = 0;
            for (int cell = 0; cell < MOST_CELLS; cell++) {
                dams[cell] = cameBy[2 * cell] != NONE && cameBy[2 * cell + 1] == NONE;
                if (dams[cell]) {
                    cost += level - land.heights[cell];
                }
            }
        }

        /** Looks for a way with room from the place to the rim; answers its last node, or NONE. */
        private int search(Land land) {
            Arrays.fill(cameBy, NONE);
            queued = 0;
            int start = 2 * place + 1;
            come(start, start, 0);
            for (int at = 0; at < queued && at < NODES; at++) {
                int cell = queue[at] / 2;
                if (queue[at] % 2 == 0) {
                    goOnFromWayIn(land, cell);
                } else if (land.rim[cell]) {
                    return queue[at];
                } else {
                    goOnFromWayOut(land, cell);
                }
            }
            return NONE;
        }

        private void come(int node, int by, int edge) {
            if (cameBy[node] == NONE && queued < NODES) {
                cameBy[node] = by;
                edges[node] = edge;
                queue[queued] = node;
                queued++;
            }
        }

        private void goOnFromWayIn(Land land, int cell) {
            if (through[cell] < level - land.heights[cell]) {
                come(2 * cell + 1, 2 * cell, 0);
            }
            for (int side = 0; side < SIDES; side++) {
                int other = land.beside[cell * SIDES + side];
                // sides lie opposite at a distance of two
                int edge = other * SIDES + (side + 2) % SIDES;
                if (other != NONE && between[edge] > 0) {
                    come(2 * other + 1, 2 * cell, edge);
                }
            }
        }

        private void goOnFromWayOut(Land land, int cell) {
            if (through[cell] > 0) {
                come(2 * cell, 2 * cell + 1, 0);
            }
            for (int side = 0; side < SIDES; side++) {
                int other = land.beside[cell * SIDES + side];
                if (other != NONE && other != place && land.heights[other] < level) {
                    come(2 * other, 2 * cell + 1, cell * SIDES + side);
                }
            }
        }

        private int roomTo(Land land, int end) {
            int least = MOST_INT;
            int node = end;
            for (int hops = 0; hops < NODES && cameBy[node] != node; hops++) {
                least = Math.min(least, roomOfHop(land, cameBy[node], node));
                node = cameBy[node];
            }
            return least;
        }

        private int roomOfHop(Land land, int by, int node) {
            int cell = by / 2;
            boolean isFromWayIn = by % 2 == 0;
            if (cell == node / 2) {
                return isFromWayIn ? level - land.heights[cell] - through[cell] : through[cell];
            }
            return isFromWayIn ? between[edges[node]] : MOST_INT;
        }

        private void send(int end, int units) {
            int node = end;
            for (int hops = 0; hops < NODES && cameBy[node] != node; hops++) {
                int by = cameBy[node];
                boolean isFromWayIn = by % 2 == 0;
                if (by / 2 == node / 2) {
                    through[by / 2] += isFromWayIn ? units : -units;
                } else {
                    between[edges[node]] += isFromWayIn ? -units : units;
                }
                node = by;
            }
        }
    }

    /** Layers of soils, from above down. */
    private static final class Profile {
        private static final int[] TAKES_IN = {1, 2, 9, 3, 4, 7, 5};
        private static final int[] HOLDS = {4, 3, 1, 4, 3, 2, 3};

        final int[] thickness = new int[MOST_LAYERS];
        final int[] clay = new int[MOST_LAYERS];
        final int[] silt = new int[MOST_LAYERS];
        int layers;
        int room;

        static int soilOf(int clay, int silt) {
            int sand = WHOLE - clay - silt;
            if (clay >= 40) {
                return 0;
            }
            if (silt >= 80) {
                return 1;
            }
            if (sand >= 85) {
                return 2;
            }
            if (clay >= 27) {
                return 3;
            }
            if (silt >= 50) {
                return 4;
            }
            return sand >= 52 ? 5 : 6;
        }

        void addLayer(int newThickness, int newClay, int newSilt) {
            if (layers >= MOST_LAYERS) {
                return;
            }
            thickness[layers] = newThickness;
            clay[layers] = newClay;
            silt[layers] = newSilt;
            room += newThickness * HOLDS[soilOf(newClay, newSilt)];
            layers++;
        }

        int soilAt(int layer) {
            return soilOf(clay[layer], silt[layer]);
        }

        int shareAt(int layer, int what) {
            switch (what) {
                case 0:
                    return clay[layer];
                case 1:
                    return silt[layer];
                default:
                    return WHOLE - clay[layer] - silt[layer];
            }
        }

        int takesInAbove() {
            return layers < 1 ? 0 : TAKES_IN[soilAt(0)];
        }

        int takesInBelow() {
            return layers < 1 ? 0 : TAKES_IN[soilAt(layers - 1)];
        }

        int permille(int what) {
            int whole = 0;
            for (int layer = 0; layer < layers; layer++) {
                whole += thickness[layer];
            }
            if (whole < 1) {
                return 0;
            }
            int lacking = 1000;
            int before = 0;
            int lost = weightOf(what) % whole;
            for (int other = 0; other < 3; other++) {
                int weight = weightOf(other);
                lacking -= weight / whole;
                if (weight % whole > lost || weight % whole == lost && other < what) {
                    before++;
                }
            }
            return weightOf(what) / whole + (before < lacking ? 1 : 0);
        }

        /** A share of all layers, as many times too great as they are thick together. */
        private int weightOf(int what) {
            int weight = 0;
            for (int layer = 0; layer < layers; layer++) {
                weight += 10 * thickness[layer] * shareAt(layer, what);
            }
            return weight;
        }
    }

    /** The profiles, and which one is the ground of which cell. */
    private static final class Soils {
        final ArrayList<Profile> profiles = new ArrayList<Profile>();
        final int[] grounds = new int[MOST_CELLS];

        Soils() {
            takeAway();
        }

        void takeAway() {
            Arrays.fill(grounds, NONE);
        }

        int makeProfile() {
            Profile made = new Profile();
            made.addLayer(1, WHOLE, 0);
            profiles.add(made);
            return profiles.size() - 1;
        }

        boolean isUsed(int profile) {
            for (int cell = 0; cell < MOST_CELLS; cell++) {
                if (grounds[cell] == profile) {
                    return true;
                }
            }
            return false;
        }

        /** The profile under a cell; null if it has no ground. */
        Profile under(int cell) {
            int number = grounds[cell];
            return number < 0 || number >= profiles.size() ? null : profiles.get(number);
        }
    }

    /** The water: where it is, and where it went. */
    private static final class Weather {
        final int[] standing = new int[MOST_CELLS];
        final int[] soaked = new int[MOST_CELLS];
        long came;
        long rose;
        long ranOut;
        long sank;
        private final int[] turns = new int[MOST_CELLS];
        private final int[] surfaces = new int[MOST_CELLS];

        void bring(int cell, int units) {
            standing[cell] += units;
            came += units;
        }

        long sumOf(int[] units) {
            long sum = 0;
            for (int cell = 0; cell < units.length; cell++) {
                sum += units[cell];
            }
            return sum;
        }

        long dryUp(Land land, int units) {
            long dried = 0;
            for (int cell = 0; cell < land.cells; cell++) {
                int fromAbove = Math.min(units, standing[cell]);
                int fromGround = Math.min(units - fromAbove, soaked[cell]);
                standing[cell] -= fromAbove;
                soaked[cell] -= fromGround;
                dried += fromAbove + fromGround;
            }
            rose += dried;
            return dried;
        }

        int goOn(Land land, Soils soils, int steps) {
            for (int cell = 0; cell < land.cells; cell++) {
                turns[cell] = cell;
            }
            int lively = 0;
            for (int step = 0; step < steps; step++) {
                long moved = flow(land);
                moved += runOut(land);
                for (int cell = 0; cell < land.cells; cell++) {
                    moved += soakIn(cell, soils.under(cell));
                }
                if (moved == 0) {
                    // each step from here on would find the same and move as little
                    return lively;
                }
                lively++;
            }
            return lively;
        }

        private long flow(Land land) {
            sortTurns(land);
            long moved = 0;
            for (int turn = 0; turn < land.cells; turn++) {
                moved += flowFrom(land, turns[turn]);
            }
            return moved;
        }

        // the order of the step before is nearly this one's, so that little is left to move
        private void sortTurns(Land land) {
            for (int cell = 0; cell < land.cells; cell++) {
                surfaces[cell] = surfaceOf(land, cell);
            }
            for (int end = 1; end < land.cells; end++) {
                int cell = turns[end];
                int at = end;
                while (at > 0 && isBefore(cell, turns[at - 1])) {
                    turns[at] = turns[at - 1];
                    at--;
                }
                turns[at] = cell;
            }
        }

        private boolean isBefore(int one, int other) {
            return surfaces[one] > surfaces[other] || surfaces[one] == surfaces[other] && one < other;
        }

        private int surfaceOf(Land land, int cell) {
            return land.heights[cell] + standing[cell];
        }

        private int flowFrom(Land land, int cell) {
            if (standing[cell] <= 0) {
                return 0;
            }
            int own = surfaceOf(land, cell);
            int least = own;
            int lowest = NONE;
            for (int side = 0; side < SIDES; side++) {
                int other = land.beside[cell * SIDES + side];
                if (other != NONE && surfaceOf(land, other) < least) {
                    least = surfaceOf(land, other);
                    lowest = other;
                }
            }
            if (lowest == NONE) {
                return 0;
            }
            int units = Math.min((own - least + 1) / 2, standing[cell]);
            standing[cell] -= units;
            standing[lowest] += units;
            return units;
        }

        private long runOut(Land land) {
            long moved = 0;
            for (int cell = 0; cell < land.cells; cell++) {
                if (land.rim[cell]) {
                    moved += standing[cell];
                    standing[cell] = 0;
                }
            }
            ranOut += moved;
            return moved;
        }

        /** Lets the ground of a cell take in water and let it go below; answers how much moved. */
        private int soakIn(int cell, Profile ground) {
            if (ground == null) {
                return 0;
            }
            int room = ground.room - soaked[cell];
            int units = Math.min(Math.min(ground.takesInAbove(), standing[cell]), room);
            standing[cell] -= units;
            soaked[cell] += units;
            int half = (ground.room + 1) / 2;
            int below = Math.max(Math.min(soaked[cell] - half, ground.takesInBelow()), 0);
            soaked[cell] -= below;
            sank += below;
            return units + below;
        }
    }

    /** Finds again, in other ways, what the survey answers, and counts what does not agree. */
    private static final class Theorem {
        private final int[] lowered = new int[MOST_CELLS];
        private final int[] caught = new int[MOST_CELLS];
        private final int[] found = new int[MOST_CELLS];
        private final boolean[] flooded = new boolean[MOST_CELLS];

        int failedOnLand(Land land, Streams streams) {
            return (areLevelsRight(land, streams) ? 0 : 1)
                    + (doDrainsLeadOut(land, streams) ? 0 : 1)
                    + (doCatchmentsPart(land, streams) ? 0 : 1);
        }

        int failedOnWater(Weather weather) {
            long now = weather.sumOf(weather.standing) + weather.sumOf(weather.soaked);
            return weather.came == now + weather.rose + weather.ranOut + weather.sank ? 0 : 1;
        }

        int failedOnWall(Land land, Wall wall) {
            return (doesKeepDry(land, wall) ? 0 : 1) + (wall.cost == wall.flow ? 0 : 1);
        }

        private boolean areLevelsRight(Land land, Streams streams) {
            for (int cell = 0; cell < land.cells; cell++) {
                lowered[cell] = land.rim[cell] ? land.heights[cell] : MOST_LEVEL;
            }
            // no way has more cells than the land, so that many rounds bring each level down
            boolean isMoving = true;
            for (int round = 0; round < land.cells && isMoving; round++) {
                isMoving = lowerAll(land);
            }
            for (int cell = 0; cell < land.cells; cell++) {
                if (lowered[cell] != streams.spread.levels[cell]) {
                    return false;
                }
            }
            return true;
        }

        private boolean lowerAll(Land land) {
            boolean isMoving = false;
            for (int cell = 0; cell < land.cells; cell++) {
                for (int side = 0; side < SIDES; side++) {
                    int other = land.beside[cell * SIDES + side];
                    if (other != NONE && Math.max(lowered[other], land.heights[cell]) < lowered[cell]) {
                        lowered[cell] = Math.max(lowered[other], land.heights[cell]);
                        isMoving = true;
                    }
                }
            }
            return isMoving;
        }

        private boolean doDrainsLeadOut(Land land, Streams streams) {
            for (int cell = 0; cell < land.cells; cell++) {
                if (endOf(cell, land, streams) != streams.outlets[cell]) {
                    return false;
                }
            }
            return true;
        }

        /** The cell of the rim to which drains lead that never rise; NONE if they do not. */
        private int endOf(int start, Land land, Streams streams) {
            int cell = start;
            for (int hops = 0; hops < land.cells; hops++) {
                int drain = streams.spread.from[cell];
                if (drain == NONE) {
                    return land.rim[cell] ? cell : NONE;
                }
                if (land.sideOf(cell, drain) == NONE
                        || streams.spread.levels[drain] > streams.spread.levels[cell]) {
                    return NONE;
                }
                cell = drain;
            }
            return NONE;
        }

        private boolean doCatchmentsPart(Land land, Streams streams) {
            Arrays.fill(caught, 0);
            for (int cell = 0; cell < land.cells; cell++) {
                caught[streams.outlets[cell]]++;
            }
            int sum = 0;
            for (int cell = 0; cell < land.cells; cell++) {
                if (land.rim[cell]) {
                    sum += caught[cell];
                    if (caught[cell] != streams.gathered[cell]) {
                        return false;
                    }
                }
            }
            return sum == land.cells;
        }

        private boolean doesKeepDry(Land land, Wall wall) {
            for (int cell = 0; cell < MOST_CELLS; cell++) {
                flooded[cell] = false;
            }
            int count = 0;
            for (int cell = 0; cell < land.cells; cell++) {
                if (land.rim[cell] && isOpen(cell, land, wall)) {
                    count = floodTo(cell, count);
                }
            }
            for (int at = 0; at < count && at < MOST_CELLS; at++) {
                for (int side = 0; side < SIDES; side++) {
                    int other = land.beside[found[at] * SIDES + side];
                    if (other != NONE && isOpen(other, land, wall)) {
                        count = floodTo(other, count);
                    }
                }
            }
            return !flooded[wall.place];
        }

        private static boolean isOpen(int cell, Land land, Wall wall) {
            return land.heights[cell] < wall.level && !wall.dams[cell];
        }

        private int floodTo(int cell, int count) {
            if (flooded[cell] || count >= MOST_CELLS) {
                return count;
            }
            flooded[cell] = true;
            found[count] = cell;
            return count + 1;
        }
    }
}
