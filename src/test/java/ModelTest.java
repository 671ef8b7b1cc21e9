import java.util.ArrayList;
import java.util.List;
import java.util.Random;

/** Long drawn runs of all calls, right and wrong ones, each answer compared with the model's. */
public final class ModelTest {
    private static final int RUNS = 800;
    private static final int MOST_TOLD = 20;
    /** No drawn row of calls takes more than this many. */
    private static final int ROOM = 160;

    private interface Call {
        Object answer();
    }

    private static int wrong;
    private final Random random;
    private final ClaySurvey survey = new ClaySurvey();
    private final Model model = new Model();
    private final List<String> calls = new ArrayList<>();
    private final int run;
    private int used;

    private ModelTest(int run) {
        this.run = run;
        random = new Random(run);
    }

    public static void main(String[] args) {
        for (int run = 0; run < RUNS; run++) {
            new ModelTest(run).go();
            new ModelTest(run).wallsOfWideLand();
        }
        System.out.println(wrong == 0 ? "all answers are the model's" : wrong + " answers are wrong");
        System.exit(wrong == 0 ? 0 : 1);
    }

    private void go() {
        int sinceNewLand = 100;
        while (used + ROOM <= Script.MOST_CALLS && wrong < MOST_TOLD) {
            if (sinceNewLand >= 40) {
                newLand();
                sinceNewLand = random.nextInt(40);
            }
            if (used + ROOM <= Script.MOST_CALLS) {
                one(random.nextInt(60));
            }
            sinceNewLand++;
        }
        sweep();
    }

    /** All that can be asked of each cell, as far as calls are left, so that nothing stays changed unseen. */
    private void sweep() {
        for (int what = 0; what < 6; what++) {
            int at = what;
            same("total " + at, () -> survey.total(at), () -> model.total(at));
        }
        int cells = model.rows() * model.columns();
        int first = random.nextInt(cells);
        for (int c = 0; c < cells && used + 8 <= Script.MOST_CALLS; c++) {
            int cell = (first + c) % cells;
            same("height " + cell, () -> survey.height(cell), () -> model.height(cell));
            same("level " + cell, () -> survey.level(cell), () -> model.level(cell));
            same("drain " + cell, () -> survey.drain(cell), () -> model.drain(cell));
            same("rank " + cell, () -> survey.rank(cell), () -> model.rank(cell));
            same("lakeOf " + cell, () -> survey.lakeOf(cell), () -> model.lakeOf(cell));
            same("groundOf " + cell, () -> survey.groundOf(cell), () -> model.groundOf(cell));
            same("water " + cell, () -> survey.water(cell, false), () -> model.water(cell, false));
            same("water in " + cell, () -> survey.water(cell, true), () -> model.water(cell, true));
        }
    }

    private void newGrounds(int cells) {
        same("profile", survey::profile, model::profile);
        for (int i = 0; i < 3; i++) {
            onSoils(37);
        }
        for (int c = 0; c < cells; c++) {
            int cell = c;
            int on = random.nextInt(3) - 1;
            same("ground " + cell + " " + on, () -> survey.ground(cell, on), () -> model.ground(cell, on));
        }
    }

    /** Walls where the flow must often be led another way than at first: in wide land, at a level among its heights. */
    private void wallsOfWideLand() {
        int r = 6 + random.nextInt(5);
        int c = 6 + random.nextInt(5);
        int range = new int[] {2, 4, 10, 50, 500}[random.nextInt(5)];
        int seed = random.nextInt(1 << 30);
        same("begin " + r + " " + c, () -> survey.begin(r, c), () -> model.begin(r, c));
        same("scatter " + seed + " " + range, () -> survey.scatter(seed, range), () -> model.scatter(seed, range));
        for (int i = 0; i < 4; i++) {
            int level = range / 2 + random.nextInt(range) + 1;
            int place = (1 + random.nextInt(r - 2)) * c + 1 + random.nextInt(c - 2);
            same("wallCost " + level + " " + place, () -> survey.wallCost(level, place),
                    () -> model.wallCost(level, place));
            used += r * c - 1;
            same("dams " + level + " " + place, () -> dams(level, place), () -> model.dams(level, place));
            same("errors " + level, () -> survey.errors(level), () -> model.errors(level));
        }
    }

    private List<Integer> dams(int level, int place) {
        List<Integer> found = new ArrayList<>();
        for (int cell = 0; cell < model.rows() * model.columns(); cell++) {
            if (survey.isDam(level, place, cell)) {
                found.add(cell);
            }
        }
        return found;
    }

    private static Object outcome(Call call) {
        try {
            return call.answer();
        } catch (RuntimeException e) {
            // what the machine or its library throws by itself counts as another outcome
            String thrower = e.getStackTrace()[0].getClassName();
            return thrower.equals("ClaySurvey") || thrower.equals("Model") ? e.getClass().getName() : e.toString();
        }
    }

    private void same(String name, Call ours, Call theirs) {
        calls.add(name);
        used++;
        if (used > Script.MOST_CALLS) {
            throw new AssertionError("run " + run + " of more than " + Script.MOST_CALLS + " calls");
        }
        Object got = outcome(ours);
        Object want = outcome(theirs);
        if (!got.equals(want)) {
            wrong++;
            System.out.println("run " + run + ", call " + calls.size() + ": " + name + " answered " + got
                    + ", due is " + want + ", after " + calls.subList(Math.max(0, calls.size() - 12), calls.size()));
        }
    }

    private int odd() {
        int[] all = {-1, -2, Integer.MIN_VALUE, Integer.MAX_VALUE, 100, 101, 1000, 1001, 11, 6, 5, 51};
        return all[random.nextInt(all.length)];
    }

    /** A number from the least to the most, seldom one of those beside them or far away. */
    private int number(int least, int most) {
        int kind = random.nextInt(40);
        if (kind == 0) {
            return odd();
        }
        if (kind == 1) {
            return random.nextBoolean() ? least - 1 : most + 1;
        }
        if (kind == 2) {
            return random.nextBoolean() ? least : most;
        }
        return least + random.nextInt(most - least + 1);
    }

    private int cell() {
        return number(0, model.rows() * model.columns() - 1);
    }

    private int level() {
        return random.nextInt(4) == 0 ? number(0, 1000) : number(0, Math.min(1000, 10 + (int) model.meanHeight() * 2));
    }

    private void newLand() {
        for (int i = 0; i < 12 && model.total(1) + model.total(2) > 0; i++) {
            same("sun(100)", () -> survey.sun(100), () -> model.sun(100));
        }
        if (random.nextInt(4) == 0) {
            same("clearText", survey::clearText, model::clearText);
            typeLand(false);
            same("read", survey::read, model::read);
        } else {
            int most = random.nextInt(3) == 0 ? 10 : 6;
            int r = 1 + random.nextInt(most);
            int c = 1 + random.nextInt(most);
            same("begin " + r + " " + c, () -> survey.begin(r, c), () -> model.begin(r, c));
            if (random.nextInt(3) > 0) {
                shape(r, c);
            }
            int[] ranges = {2, 3, 5, 10, 60, 500};
            int seed = random.nextInt(1000000);
            int range = ranges[random.nextInt(ranges.length)];
            same("scatter " + seed + " " + range, () -> survey.scatter(seed, range), () -> model.scatter(seed, range));
        }
        if (random.nextBoolean()) {
            newGrounds(model.rows() * model.columns());
        }
    }

    /** A bowl, roughly: high on the rim, so that there are lakes. */
    private void shape(int r, int c) {
        int high = random.nextInt(20);
        for (int cell = 0; cell < r * c && r < 6 && c < 6; cell++) {
            int at = cell;
            int height = at % c == 0 || at / c == 0 || at % c == c - 1 || at / c == r - 1 ? high : random.nextInt(10);
            same("set " + at + " " + height, () -> survey.set(at, height), () -> model.set(at, height));
        }
    }

    private void typeLand(boolean isWrong) {
        int r = 1 + random.nextInt(isWrong ? 11 : 10);
        int c = 1 + random.nextInt(isWrong ? 11 : 10);
        StringBuilder land = new StringBuilder();
        for (int row = 0; row < r; row++) {
            land.append(row > 0 ? "/" : "");
            for (int column = 0; column < c; column++) {
                land.append((char) ('a' + random.nextInt(26)));
            }
        }
        for (int i = 0; isWrong && i < random.nextInt(3); i++) {
            int at = random.nextInt(land.length());
            int kind = random.nextInt(4);
            if (kind == 0) {
                land.insert(at, 'q');
            } else if (kind == 1 && land.length() > 1) {
                land.deleteCharAt(at);
            } else {
                land.insert(at, kind == 2 ? '/' : "`{A.0\u00ff\u0001".charAt(random.nextInt(7)));
            }
        }
        for (int at = 0; at < land.length();) {
            int many = Math.min(1 + random.nextInt(8), land.length() - at);
            long bytes = 0;
            for (int i = 0; i < many; i++) {
                bytes = bytes << 8 | land.charAt(at + i);
            }
            long typed = many < 8 && random.nextBoolean() ? bytes << 8 : bytes;
            same("type " + typed, () -> survey.type(typed), () -> model.type(typed));
            at += many;
        }
    }

    private void one(int kind) {
        if (kind < 14) {
            onLand(kind);
        } else if (kind < 28) {
            onDrains(kind);
        } else if (kind < 34) {
            onFloods(kind);
        } else if (kind < 44) {
            onSoils(kind);
        } else {
            onWater(kind);
        }
    }

    private void onLand(int kind) {
        int cell = cell();
        switch (kind) {
            case 0 -> {
                long bytes = random.nextInt(4) == 0 ? random.nextLong() : random.nextInt(3) * 0x6100L;
                same("type " + bytes, () -> survey.type(bytes), () -> model.type(bytes));
            }
            case 1 -> {
                if (random.nextInt(3) == 0) {
                    same("clearText", survey::clearText, model::clearText);
                    typeLand(true);
                }
            }
            case 2, 3 -> {
                same("errorKind", survey::errorKind, model::errorKind);
                same("errorPlace", survey::errorPlace, model::errorPlace);
            }
            case 4 -> {
                if (random.nextInt(4) == 0) {
                    same("read", survey::read, model::read);
                }
            }
            case 5 -> {
                if (random.nextInt(4) == 0) {
                    int r = number(1, 10);
                    int c = number(1, 10);
                    same("begin " + r + " " + c, () -> survey.begin(r, c), () -> model.begin(r, c));
                }
            }
            case 6 -> {
                int base = number(0, 999);
                int r = random.nextBoolean() ? number(-99, 99) : number(-3, 3);
                int c = random.nextBoolean() ? number(-99, 99) : number(-3, 3);
                same("slope " + base + " " + r + " " + c, () -> survey.slope(base, r, c), () -> model.slope(base, r, c));
            }
            case 7 -> {
                int seed = random.nextInt(3) == 0 ? random.nextInt() : number(0, 1000000);
                int range = number(1, random.nextBoolean() ? 500 : 10);
                same("scatter " + seed + " " + range, () -> survey.scatter(seed, range),
                        () -> model.scatter(seed, range));
            }
            case 8, 9 -> {
                int height = random.nextInt(4) == 0 ? number(0, 999) : number(0, 30);
                same("set " + cell + " " + height, () -> survey.set(cell, height), () -> model.set(cell, height));
            }
            case 10, 11 -> same("undo", survey::undo, model::undo);
            case 12 -> {
                same("rows", survey::rows, model::rows);
                same("columns", survey::columns, model::columns);
            }
            default -> same("height " + cell, () -> survey.height(cell), () -> model.height(cell));
        }
    }

    private void onDrains(int kind) {
        int cell = cell();
        switch (kind) {
            case 14 -> same("level " + cell, () -> survey.level(cell), () -> model.level(cell));
            case 15 -> same("drain " + cell, () -> survey.drain(cell), () -> model.drain(cell));
            case 16 -> same("outlet " + cell, () -> survey.outlet(cell), () -> model.outlet(cell));
            case 17 -> same("gathers " + cell, () -> survey.gathers(cell), () -> model.gathers(cell));
            case 18 -> same("rank " + cell, () -> survey.rank(cell), () -> model.rank(cell));
            case 19 -> same("length " + cell, () -> survey.length(cell), () -> model.length(cell));
            case 20, 21 -> {
                int other = cell();
                same("sill " + cell + " " + other, () -> survey.sill(cell, other), () -> model.sill(cell, other));
            }
            case 22 -> same("lakes", survey::lakes, model::lakes);
            case 23 -> same("lakeOf " + cell, () -> survey.lakeOf(cell), () -> model.lakeOf(cell));
            case 24, 25 -> {
                int lake = number(0, Math.max(0, model.lakes() - 1));
                int what = number(0, 3);
                same("lakeAt " + lake + " " + what, () -> survey.lakeAt(lake, what), () -> model.lakeAt(lake, what));
            }
            case 26 -> same("digest", survey::digest, model::digest);
            default -> {
                same("meanHeight", survey::meanHeight, model::meanHeight);
                same("lakeShare", survey::lakeShare, model::lakeShare);
            }
        }
    }

    private void onFloods(int kind) {
        int level = level();
        int cell = cell();
        int place = cell();
        switch (kind) {
            case 28 -> same("wet " + level, () -> survey.wet(level), () -> model.wet(level));
            case 29 -> same("isWet " + level + " " + cell, () -> survey.isWet(level, cell),
                    () -> model.isWet(level, cell));
            case 30, 31 -> {
                same("wallCost " + level + " " + place, () -> survey.wallCost(level, place),
                        () -> model.wallCost(level, place));
                if (random.nextInt(4) == 0) {
                    for (int c = -1; c <= model.rows() * model.columns(); c++) {
                        int at = c;
                        same("isDam " + level + " " + place + " " + at, () -> survey.isDam(level, place, at),
                                () -> model.isDam(level, place, at));
                    }
                }
            }
            case 32 -> same("isDam " + level + " " + place + " " + cell, () -> survey.isDam(level, place, cell),
                    () -> model.isDam(level, place, cell));
            default -> same("errors " + level, () -> survey.errors(level), () -> model.errors(level));
        }
    }

    private void onSoils(int kind) {
        int cell = cell();
        int profile = number(0, 5);
        int clay = random.nextInt(3) == 0 ? number(0, 100) : number(0, 50);
        int silt = random.nextInt(3) == 0 ? number(0, 100) : number(0, Math.max(0, 100 - Math.min(100, clay & 127)));
        int what = number(0, 4);
        switch (kind) {
            case 34, 35 -> same("nameOf " + clay + " " + silt, () -> survey.nameOf(clay, silt),
                    () -> model.nameOf(clay, silt));
            case 36 -> same("profile", survey::profile, model::profile);
            case 37, 38 -> {
                int thickness = number(1, random.nextBoolean() ? 50 : 5);
                same("layer " + profile + " " + thickness + " " + clay + " " + silt,
                        () -> survey.layer(profile, thickness, clay, silt),
                        () -> model.layer(profile, thickness, clay, silt));
            }
            case 39 -> {
                int layer = number(0, 4);
                same("layerAt " + profile + " " + layer + " " + what, () -> survey.layerAt(profile, layer, what),
                        () -> model.layerAt(profile, layer, what));
            }
            case 40 -> same("holds " + profile, () -> survey.holds(profile), () -> model.holds(profile));
            case 41 -> same("mixed " + profile + " " + what, () -> survey.mixed(profile, what),
                    () -> model.mixed(profile, what));
            case 42 -> {
                int on = number(-1, 5);
                same("ground " + cell + " " + on, () -> survey.ground(cell, on), () -> model.ground(cell, on));
            }
            default -> same("groundOf " + cell, () -> survey.groundOf(cell), () -> model.groundOf(cell));
        }
    }

    private void onWater(int kind) {
        int cell = cell();
        int what = number(0, 5);
        switch (kind) {
            case 44 -> {
                int units = random.nextBoolean() ? number(1, 1000) : number(1, 10);
                same("rain " + units, () -> survey.rain(units), () -> model.rain(units));
            }
            case 45, 46 -> {
                int units = random.nextInt(3) == 0 ? number(1, 100000) : number(1, 100);
                same("pour " + cell + " " + units, () -> survey.pour(cell, units), () -> model.pour(cell, units));
            }
            case 47, 48, 49 -> {
                int steps = random.nextInt(3) == 0 ? number(1, 50) : number(1, 3);
                same("step " + steps, () -> survey.step(steps), () -> model.step(steps));
            }
            case 50 -> {
                int units = random.nextBoolean() ? number(1, 100) : number(1, 5);
                same("sun " + units, () -> survey.sun(units), () -> model.sun(units));
            }
            case 51, 52, 53 -> {
                boolean isIn = random.nextBoolean();
                same("water " + cell + " " + isIn, () -> survey.water(cell, isIn), () -> model.water(cell, isIn));
            }
            case 54, 55, 56 -> same("total " + what, () -> survey.total(what), () -> model.total(what));
            case 57 -> same("write " + (what - 1), () -> survey.write(what - 1), () -> model.write(what - 1));
            default -> {
                int index = number(0, model.rows() * (model.columns() + 1) - 2);
                same("pageAt " + index, () -> survey.pageAt(index), () -> model.pageAt(index));
            }
        }
    }
}
