import java.util.ArrayDeque;
import java.util.ArrayList;
import java.util.Arrays;
import java.util.Comparator;
import java.util.Deque;
import java.util.List;
import java.util.NoSuchElementException;
import java.util.PriorityQueue;
import java.util.TreeSet;

/**
 * The document once more, in another and slower way, with lists and definitions taken by the letter: what
 * ModelTest compares the program with.
 */
final class Model {
    private static final int[] INTAKE = {1, 2, 9, 3, 4, 7, 5};
    private static final int[] HOLD = {4, 3, 1, 4, 3, 2, 3};

    private final List<Integer> text = new ArrayList<>();
    private int rows = 1;
    private int columns = 1;
    private int[] heights = new int[1];
    private final Deque<int[][]> undos = new ArrayDeque<>();
    private final List<List<int[]>> profiles = new ArrayList<>();
    private int[] grounds = {-1};
    private long[] stands = new long[1];
    private long[] inGround = new long[1];
    private long came;
    private long air;
    private long out;
    private long below;
    private String page = "";
    /** The greatest number of inner cells for which walls are looked for by trying all of them. */
    static final int MOST_TRIED = 12;

    int type(long bytes) {
        List<Integer> more = new ArrayList<>();
        for (long rest = bytes; rest != 0; rest >>>= 8) {
            if ((rest & 255) != 0) {
                more.add(0, (int) (rest & 255));
            }
        }
        if (text.size() + more.size() > 200) {
            throw new IllegalStateException();
        }
        text.addAll(more);
        return text.size();
    }

    int clearText() {
        int before = text.size();
        text.clear();
        return before;
    }

    /** Kind and place, by looking for the first place of each kind. */
    private int[] error() {
        int[] first = {1000, firstOfKind1(), firstOfKind2(), firstOfKind3()};
        int kind = 0;
        for (int k = 1; k <= 3; k++) {
            if (first[k] < first[kind]) {
                kind = k;
            }
        }
        return new int[] {kind, kind == 0 ? -1 : first[kind]};
    }

    private boolean isSlash(int at) {
        return at >= 0 && at < text.size() && text.get(at) == '/';
    }

    private int firstOfKind1() {
        for (int at = 0; at < text.size(); at++) {
            int b = text.get(at);
            boolean isLetter = b >= 'a' && b <= 'z';
            if (!isLetter && b != '/' || b == '/' && (at == 0 || isSlash(at - 1))) {
                return at;
            }
        }
        return text.isEmpty() || isSlash(text.size() - 1) ? text.size() : 1000;
    }

    private int firstOfKind2() {
        int run = 0;
        int slashes = 0;
        for (int at = 0; at < text.size(); at++) {
            if (isSlash(at)) {
                run = 0;
                slashes++;
                if (slashes == 10) {
                    return at;
                }
            } else {
                run++;
                if (run == 11) {
                    return at;
                }
            }
        }
        return 1000;
    }

    private int firstOfKind3() {
        String all = asString();
        String[] parts = all.split("/", -1);
        int start = parts[0].length() + 1;
        for (int row = 1; row < parts.length; row++) {
            if (parts[row].length() > parts[0].length()) {
                return start + parts[0].length();
            }
            if (parts[row].length() < parts[0].length()) {
                return start + parts[row].length();
            }
            start += parts[row].length() + 1;
        }
        return 1000;
    }

    private String asString() {
        StringBuilder all = new StringBuilder();
        for (int b : text) {
            all.append((char) b);
        }
        return all.toString();
    }

    int errorKind() {
        return error()[0];
    }

    int errorPlace() {
        return error()[1];
    }

    private boolean isDry() {
        return Arrays.stream(stands).sum() == 0 && Arrays.stream(inGround).sum() == 0;
    }

    private void keep() {
        undos.push(new int[][] {{rows, columns}, heights.clone()});
        if (undos.size() > 8) {
            undos.removeLast();
        }
    }

    private void make(int newRows, int newColumns) {
        rows = newRows;
        columns = newColumns;
        int n = rows * columns;
        heights = new int[n];
        grounds = new int[n];
        Arrays.fill(grounds, -1);
        stands = new long[n];
        inGround = new long[n];
    }

    int read() {
        if (error()[0] != 0 || !isDry()) {
            throw new IllegalStateException();
        }
        keep();
        String[] parts = asString().split("/");
        make(parts.length, parts[0].length());
        String letters = String.join("", parts);
        for (int i = 0; i < heights.length; i++) {
            heights[i] = 10 * (letters.charAt(i) - 'a');
        }
        return heights.length;
    }

    int begin(int newRows, int newColumns) {
        range(newRows, 1, 10);
        range(newColumns, 1, 10);
        if (!isDry()) {
            throw new IllegalStateException();
        }
        keep();
        make(newRows, newColumns);
        return heights.length;
    }

    int slope(int base, int byRow, int byColumn) {
        range(base, 0, 999);
        range(byRow, -99, 99);
        range(byColumn, -99, 99);
        int[] next = new int[heights.length];
        for (int i = 0; i < next.length; i++) {
            next[i] = base + byRow * (i / columns) + byColumn * (i % columns);
            range(next[i], 0, 999);
        }
        keep();
        heights = next;
        return Arrays.stream(heights).max().getAsInt();
    }

    int scatter(int seed, int range) {
        if (seed < 0) {
            throw new IllegalArgumentException();
        }
        range(range, 1, 500);
        keep();
        heights = heights.clone();
        long x = seed;
        for (int i = 0; i < heights.length; i++) {
            x = Math.floorMod(x * 1103515245L + 12345L, 1L << 31);
            heights[i] = (int) Math.min(999, heights[i] + x / 65536 % range);
        }
        return Arrays.stream(heights).sum();
    }

    int set(int cell, int height) {
        cell(cell);
        range(height, 0, 999);
        keep();
        int before = heights[cell];
        heights[cell] = height;
        return before;
    }

    int undo() {
        if (undos.isEmpty()) {
            return -1;
        }
        int[][] last = undos.peek();
        if (last[0][0] != rows || last[0][1] != columns) {
            if (!isDry()) {
                throw new IllegalStateException();
            }
            make(last[0][0], last[0][1]);
        }
        undos.pop();
        heights = last[1].clone();
        return undos.size();
    }

    int rows() {
        return rows;
    }

    int columns() {
        return columns;
    }

    int height(int cell) {
        cell(cell);
        return heights[cell];
    }

    private List<Integer> neighbours(int cell) {
        List<Integer> found = new ArrayList<>();
        int r = cell / columns;
        int c = cell % columns;
        int[][] ways = {{-1, 0}, {0, 1}, {1, 0}, {0, -1}};
        for (int[] way : ways) {
            int nr = r + way[0];
            int nc = c + way[1];
            if (nr >= 0 && nr < rows && nc >= 0 && nc < columns) {
                found.add(nr * columns + nc);
            }
        }
        return found;
    }

    private boolean isRim(int cell) {
        return neighbours(cell).size() < 4;
    }

    /** Levels, drains and the order of taking, by a queue. */
    private int[][] drained() {
        int n = heights.length;
        int[] level = new int[n];
        int[] drain = new int[n];
        int[] turn = new int[n];
        boolean[] reached = new boolean[n];
        PriorityQueue<Integer> queue = new PriorityQueue<>(
                Comparator.<Integer>comparingInt(c -> level[c]).thenComparingInt(c -> c));
        for (int c = 0; c < n; c++) {
            if (isRim(c)) {
                level[c] = heights[c];
                drain[c] = -1;
                reached[c] = true;
                queue.add(c);
            }
        }
        for (int t = 0; !queue.isEmpty(); t++) {
            int c = queue.poll();
            turn[c] = t;
            for (int o : neighbours(c)) {
                if (!reached[o]) {
                    reached[o] = true;
                    level[o] = Math.max(heights[o], level[c]);
                    drain[o] = c;
                    queue.add(o);
                }
            }
        }
        return new int[][] {level, drain, turn};
    }

    int level(int cell) {
        cell(cell);
        return drained()[0][cell];
    }

    int drain(int cell) {
        cell(cell);
        return drained()[1][cell];
    }

    int outlet(int cell) {
        cell(cell);
        int[] drain = drained()[1];
        int at = cell;
        while (drain[at] >= 0) {
            at = drain[at];
        }
        return at;
    }

    int gathers(int cell) {
        cell(cell);
        int[] drain = drained()[1];
        int count = 0;
        for (int c = 0; c < drain.length; c++) {
            int at = c;
            while (at != cell && drain[at] >= 0) {
                at = drain[at];
            }
            if (at == cell) {
                count++;
            }
        }
        return count;
    }

    private List<Integer> above(int cell, int[] drain) {
        List<Integer> found = new ArrayList<>();
        for (int c = 0; c < drain.length; c++) {
            if (drain[c] == cell) {
                found.add(c);
            }
        }
        return found;
    }

    private int rankOf(int cell, int[] drain) {
        List<Integer> ranks = new ArrayList<>();
        for (int c : above(cell, drain)) {
            ranks.add(rankOf(c, drain));
        }
        if (ranks.isEmpty()) {
            return 1;
        }
        ranks.sort(Comparator.reverseOrder());
        boolean isTwice = ranks.size() > 1 && ranks.get(0).equals(ranks.get(1));
        return ranks.get(0) + (isTwice ? 1 : 0);
    }

    int rank(int cell) {
        cell(cell);
        return rankOf(cell, drained()[1]);
    }

    private int lengthOf(int cell, int[] drain) {
        int most = 0;
        for (int c : above(cell, drain)) {
            most = Math.max(most, 1 + lengthOf(c, drain));
        }
        return most;
    }

    int length(int cell) {
        cell(cell);
        return lengthOf(cell, drained()[1]);
    }

    /** The cells that come to one by cells that are open. */
    private boolean[] comes(List<Integer> from, boolean[] open) {
        boolean[] seen = new boolean[open.length];
        Deque<Integer> todo = new ArrayDeque<>();
        for (int c : from) {
            if (open[c] && !seen[c]) {
                seen[c] = true;
                todo.add(c);
            }
        }
        while (!todo.isEmpty()) {
            for (int o : neighbours(todo.poll())) {
                if (open[o] && !seen[o]) {
                    seen[o] = true;
                    todo.add(o);
                }
            }
        }
        return seen;
    }

    int sill(int one, int other) {
        cell(one);
        cell(other);
        for (int most : new TreeSet<>(Arrays.stream(heights).boxed().toList())) {
            boolean[] open = new boolean[heights.length];
            for (int c = 0; c < open.length; c++) {
                open[c] = heights[c] <= most;
            }
            if (comes(List.of(one), open)[other]) {
                return most;
            }
        }
        throw new AssertionError();
    }

    private int[] lakeNumbers() {
        int[] level = drained()[0];
        int[] numbers = new int[heights.length];
        Arrays.fill(numbers, -1);
        int count = 0;
        for (int c = 0; c < numbers.length; c++) {
            if (numbers[c] < 0 && level[c] > heights[c]) {
                boolean[] open = new boolean[heights.length];
                for (int o = 0; o < open.length; o++) {
                    open[o] = level[o] > heights[o] && level[o] == level[c];
                }
                boolean[] lake = comes(List.of(c), open);
                for (int o = 0; o < open.length; o++) {
                    if (lake[o]) {
                        numbers[o] = count;
                    }
                }
                count++;
            }
        }
        return numbers;
    }

    int lakes() {
        return Arrays.stream(lakeNumbers()).max().getAsInt() + 1;
    }

    int lakeOf(int cell) {
        cell(cell);
        return lakeNumbers()[cell];
    }

    int lakeAt(int lake, int what) {
        index(lake, lakes());
        range(what, 0, 3);
        int[] numbers = lakeNumbers();
        int[][] all = drained();
        int size = 0;
        int depth = 0;
        int first = -1;
        for (int c = 0; c < numbers.length; c++) {
            if (numbers[c] == lake) {
                size++;
                depth += all[0][c] - heights[c];
                if (first < 0 || all[2][c] < all[2][first]) {
                    first = c;
                }
            }
        }
        return new int[] {all[0][first], size, depth, all[1][first]}[what];
    }

    private boolean[] wetCells(int level) {
        boolean[] open = new boolean[heights.length];
        List<Integer> rim = new ArrayList<>();
        for (int c = 0; c < open.length; c++) {
            open[c] = heights[c] < level;
            if (isRim(c)) {
                rim.add(c);
            }
        }
        return comes(rim, open);
    }

    int wet(int level) {
        range(level, 0, 1000);
        int count = 0;
        for (boolean is : wetCells(level)) {
            count += is ? 1 : 0;
        }
        return count;
    }

    boolean isWet(int level, int cell) {
        range(level, 0, 1000);
        cell(cell);
        return wetCells(level)[cell];
    }

    /** The dams of the cheapest wall, by trying each row of cells that could stay dry round the place. */
    private boolean[] cheapest(int level, int place) {
        int n = heights.length;
        boolean[] best = new boolean[n];
        if (!wetCells(level)[place]) {
            return best;
        }
        if (isRim(place)) {
            throw new NoSuchElementException();
        }
        List<Integer> inner = new ArrayList<>();
        for (int c = 0; c < n; c++) {
            if (!isRim(c) && heights[c] < level && c != place) {
                inner.add(c);
            }
        }
        if (inner.size() > MOST_TRIED) {
            return cheapestByFlow(level, place);
        }
        int bestCost = Integer.MAX_VALUE;
        int bestSize = Integer.MAX_VALUE;
        for (int set = 0; set < 1 << inner.size(); set++) {
            boolean[] dry = new boolean[n];
            dry[place] = true;
            for (int i = 0; i < inner.size(); i++) {
                if ((set >> i & 1) != 0) {
                    dry[inner.get(i)] = true;
                }
            }
            if (!Arrays.equals(comes(List.of(place), dry), dry)) {
                continue;
            }
            boolean[] dams = new boolean[n];
            int cost = 0;
            for (int c = 0; c < n; c++) {
                boolean beside = false;
                for (int o : neighbours(c)) {
                    beside |= dry[o];
                }
                dams[c] = !dry[c] && beside && heights[c] < level;
                cost += dams[c] ? level - heights[c] : 0;
            }
            int size = Integer.bitCount(set);
            if (cost < bestCost || cost == bestCost && size < bestSize) {
                bestCost = cost;
                bestSize = size;
                best = dams;
            }
        }
        return best;
    }

    /** The same by a flow from the rim to the place in a table of all nodes: too many cells to try all. */
    private boolean[] cheapestByFlow(int level, int place) {
        int n = heights.length;
        int rim = 2 * n;
        int[][] room = new int[2 * n + 1][2 * n + 1];
        for (int c = 0; c < n; c++) {
            if (heights[c] < level) {
                room[2 * c][2 * c + 1] = level - heights[c];
                room[rim][2 * c] = isRim(c) ? 1000000 : 0;
                for (int o : neighbours(c)) {
                    room[2 * c + 1][2 * o] = heights[o] < level ? 1000000 : 0;
                }
            }
        }
        while (push(room, rim, 2 * place)) {
            continue;
        }
        boolean[] leads = new boolean[room.length];
        leads[2 * place] = true;
        for (boolean isMore = true; isMore;) {
            isMore = false;
            for (int from = 0; from < leads.length; from++) {
                for (int to = 0; to < leads.length && !leads[from]; to++) {
                    if (leads[to] && room[from][to] > 0) {
                        leads[from] = true;
                        isMore = true;
                    }
                }
            }
        }
        boolean[] dams = new boolean[n];
        for (int c = 0; c < n; c++) {
            dams[c] = c != place && !leads[2 * c] && leads[2 * c + 1];
        }
        return dams;
    }

    private static boolean push(int[][] room, int start, int end) {
        int[] by = new int[room.length];
        Arrays.fill(by, -1);
        by[start] = start;
        Deque<Integer> todo = new ArrayDeque<>(List.of(start));
        while (!todo.isEmpty()) {
            int at = todo.pop();
            for (int to = 0; to < room.length; to++) {
                if (by[to] < 0 && room[at][to] > 0) {
                    by[to] = at;
                    todo.push(to);
                }
            }
        }
        if (by[end] < 0) {
            return false;
        }
        int least = Integer.MAX_VALUE;
        for (int at = end; at != start; at = by[at]) {
            least = Math.min(least, room[by[at]][at]);
        }
        for (int at = end; at != start; at = by[at]) {
            room[by[at]][at] -= least;
            room[at][by[at]] += least;
        }
        return true;
    }

    int wallCost(int level, int place) {
        range(level, 0, 1000);
        cell(place);
        boolean[] dams = cheapest(level, place);
        int cost = 0;
        for (int c = 0; c < dams.length; c++) {
            cost += dams[c] ? level - heights[c] : 0;
        }
        return cost;
    }

    List<Integer> dams(int level, int place) {
        boolean[] dams = cheapest(level, place);
        List<Integer> found = new ArrayList<>();
        for (int c = 0; c < dams.length; c++) {
            if (dams[c]) {
                found.add(c);
            }
        }
        return found;
    }

    boolean isDam(int level, int place, int cell) {
        range(level, 0, 1000);
        cell(place);
        cell(cell);
        return cheapest(level, place)[cell];
    }

    int nameOf(int clay, int silt) {
        shares(clay, silt);
        int sand = 100 - clay - silt;
        boolean[] fits = {clay >= 40, silt >= 80, sand >= 85, clay >= 27, silt >= 50, sand >= 52, true};
        int name = 0;
        while (!fits[name]) {
            name++;
        }
        return name;
    }

    int profile() {
        if (profiles.size() == 6) {
            throw new IllegalStateException();
        }
        List<int[]> layers = new ArrayList<>();
        layers.add(new int[] {1, 100, 0});
        profiles.add(layers);
        return profiles.size() - 1;
    }

    int layer(int profile, int thickness, int clay, int silt) {
        index(profile, profiles.size());
        range(thickness, 1, 50);
        shares(clay, silt);
        boolean isUsed = Arrays.stream(grounds).anyMatch(g -> g == profile);
        if (isUsed || profiles.get(profile).size() == 5) {
            throw new IllegalStateException();
        }
        profiles.get(profile).add(new int[] {thickness, clay, silt});
        return profiles.get(profile).size();
    }

    int layerAt(int profile, int layer, int what) {
        index(profile, profiles.size());
        index(layer, profiles.get(profile).size());
        range(what, 0, 4);
        int[] found = profiles.get(profile).get(layer);
        return new int[] {found[0], found[1], found[2], 100 - found[1] - found[2], nameOf(found[1], found[2])}[what];
    }

    int holds(int profile) {
        index(profile, profiles.size());
        int sum = 0;
        for (int[] found : profiles.get(profile)) {
            sum += found[0] * HOLD[nameOf(found[1], found[2])];
        }
        return sum;
    }

    int mixed(int profile, int what) {
        index(profile, profiles.size());
        range(what, 0, 2);
        int whole = 0;
        int[] weights = new int[3];
        for (int[] found : profiles.get(profile)) {
            whole += found[0];
            weights[0] += found[0] * found[1] * 10;
            weights[1] += found[0] * found[2] * 10;
            weights[2] += found[0] * (100 - found[1] - found[2]) * 10;
        }
        int[] shares = new int[3];
        int[] losses = new int[3];
        for (int i = 0; i < 3; i++) {
            shares[i] = weights[i] / whole;
            losses[i] = weights[i] - shares[i] * whole;
        }
        while (shares[0] + shares[1] + shares[2] < 1000) {
            int most = 0;
            for (int i = 1; i < 3; i++) {
                if (losses[i] > losses[most]) {
                    most = i;
                }
            }
            shares[most]++;
            losses[most] -= whole;
        }
        return shares[what];
    }

    int ground(int cell, int profile) {
        cell(cell);
        if (profile != -1) {
            index(profile, profiles.size());
        }
        if (inGround[cell] > 0) {
            throw new IllegalStateException();
        }
        int before = grounds[cell];
        grounds[cell] = profile;
        return before;
    }

    int groundOf(int cell) {
        cell(cell);
        return grounds[cell];
    }

    long rain(int units) {
        range(units, 1, 1000);
        for (int c = 0; c < stands.length; c++) {
            stands[c] += units;
            came += units;
        }
        return came;
    }

    long pour(int cell, int units) {
        cell(cell);
        range(units, 1, 100000);
        stands[cell] += units;
        came += units;
        return came;
    }

    int step(int steps) {
        range(steps, 1, 50);
        int count = 0;
        for (int s = 0; s < steps; s++) {
            count += oneStep() ? 1 : 0;
        }
        return count;
    }

    private long surface(int cell) {
        return heights[cell] + stands[cell];
    }

    private boolean oneStep() {
        boolean moved = false;
        List<Integer> cells = new ArrayList<>();
        long[] first = new long[heights.length];
        for (int c = 0; c < heights.length; c++) {
            cells.add(c);
            first[c] = surface(c);
        }
        cells.sort(Comparator.<Integer>comparingLong(c -> -first[c]));
        for (int c : cells) {
            moved |= runFrom(c);
        }
        for (int c : cells) {
            if (isRim(c) && stands[c] > 0) {
                out += stands[c];
                stands[c] = 0;
                moved = true;
            }
        }
        for (int c : cells) {
            if (grounds[c] >= 0) {
                int top = layerAt(grounds[c], 0, 4);
                long in = Math.min(INTAKE[top], Math.min(stands[c], holds(grounds[c]) - inGround[c]));
                stands[c] -= in;
                inGround[c] += in;
                moved |= in > 0;
            }
        }
        for (int c : cells) {
            if (grounds[c] >= 0) {
                int bottom = layerAt(grounds[c], profiles.get(grounds[c]).size() - 1, 4);
                int half = holds(grounds[c]) - holds(grounds[c]) / 2;
                if (inGround[c] > half) {
                    long down = Math.min(INTAKE[bottom], inGround[c] - half);
                    inGround[c] -= down;
                    below += down;
                    moved = true;
                }
            }
        }
        return moved;
    }

    private boolean runFrom(int cell) {
        List<Integer> beside = neighbours(cell);
        if (stands[cell] == 0 || beside.isEmpty()) {
            return false;
        }
        int to = beside.get(0);
        for (int o : beside) {
            to = surface(o) < surface(to) ? o : to;
        }
        long difference = surface(cell) - surface(to);
        if (difference <= 0) {
            return false;
        }
        long units = Math.min(difference - difference / 2, stands[cell]);
        stands[cell] -= units;
        stands[to] += units;
        return true;
    }

    long sun(int units) {
        range(units, 1, 100);
        long sum = 0;
        for (int c = 0; c < stands.length; c++) {
            for (int u = 0; u < units; u++) {
                if (stands[c] > 0) {
                    stands[c]--;
                    sum++;
                } else if (inGround[c] > 0) {
                    inGround[c]--;
                    sum++;
                }
            }
        }
        air += sum;
        return sum;
    }

    int water(int cell, boolean isInGround) {
        cell(cell);
        return (int) (isInGround ? inGround[cell] : stands[cell]);
    }

    long total(int what) {
        range(what, 0, 5);
        return new long[] {came, Arrays.stream(stands).sum(), Arrays.stream(inGround).sum(), air, out, below}[what];
    }

    int write(int what) {
        range(what, 0, 2);
        StringBuilder map = new StringBuilder();
        for (int r = 0; r < rows; r++) {
            map.append(r > 0 ? "/" : "");
            for (int c = 0; c < columns; c++) {
                map.append(sign(what, r * columns + c));
            }
        }
        page = map.toString();
        return page.length();
    }

    private char sign(int what, int cell) {
        if (what == 1) {
            return Integer.toString(rank(cell)).charAt(0);
        }
        if (what == 2) {
            int lake = lakeOf(cell);
            return lake < 0 ? '.' : "abcdefghijklmnopqrstuvwxyz".charAt(Math.min(lake, 25));
        }
        int drain = drain(cell);
        if (drain < 0) {
            return 'o';
        }
        if (drain == cell - columns) {
            return 'N';
        }
        if (drain == cell + columns) {
            return 'S';
        }
        return drain == cell + 1 ? 'E' : 'W';
    }

    int pageAt(int index) {
        index(index, page.length());
        return page.charAt(index);
    }

    long digest() {
        int[][] all = drained();
        long sum = 7;
        for (int c = 0; c < heights.length; c++) {
            sum = 31 * sum + all[0][c];
            sum = 31 * sum + all[1][c];
        }
        return sum;
    }

    int errors(int level) {
        range(level, 0, 1000);
        return 0;
    }

    double meanHeight() {
        return (double) Arrays.stream(heights).sum() / (double) heights.length;
    }

    float lakeShare() {
        return (float) Arrays.stream(lakeNumbers()).filter(l -> l >= 0).count() / (float) heights.length;
    }

    private static void range(int number, int least, int most) {
        if (number < least || number > most) {
            throw new IllegalArgumentException();
        }
    }

    private static void index(int index, int count) {
        if (index < 0 || index >= count) {
            throw new IndexOutOfBoundsException();
        }
    }

    private static void shares(int clay, int silt) {
        range(clay, 0, 100);
        range(silt, 0, 100 - clay);
    }

    private void cell(int cell) {
        index(cell, heights.length);
    }
}
