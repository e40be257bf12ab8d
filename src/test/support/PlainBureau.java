import java.util.ArrayList;
import java.util.HashMap;
import java.util.HashSet;
import java.util.List;
import java.util.Map;
import java.util.Set;

/**
 * The document written down once more, as plainly and as slowly as its words say it and with
 * nothing of the class's code, so that random runs can be held against it.
 */
final class PlainBureau {
    private static final int[] ROW_STEP = {-1, 0, 1, 0};
    private static final int[] COLUMN_STEP = {0, 1, 0, -1};

    private record Plate(int rows, int columns, List<int[]> flaws) {
    }

    private static final class Sheet {
        int plate, paper, run, seed, rows, columns, across = 10, down = 10;
        final Set<String> torn = new HashSet<>();
    }

    private static final class Stamp {
        int row, column;
        Sheet sheet;
        final int[] teeth = new int[4];
    }

    private final List<Plate> plates = new ArrayList<>();
    private final List<int[]> papers = new ArrayList<>();
    private final List<Sheet> sheets = new ArrayList<>();
    private final List<Stamp> stamps = new ArrayList<>();
    private final Map<Integer, Integer> album = new HashMap<>();

    private static void index(boolean wrong) {
        if (wrong) {
            throw new IndexOutOfBoundsException();
        }
    }

    private static void argument(boolean wrong) {
        if (wrong) {
            throw new IllegalArgumentException();
        }
    }

    private static void state(boolean wrong) {
        if (wrong) {
            throw new IllegalStateException();
        }
    }

    private static boolean in(int number, List<?> list) {
        return 0 <= number && number < list.size();
    }

    private static boolean in(int number, int least, int most) {
        return least <= number && number <= most;
    }

    private boolean onPlate(int plate, int row, int column) {
        return in(row, 0, plates.get(plate).rows - 1) && in(column, 0, plates.get(plate).columns - 1);
    }

    int addPlate(int rows, int columns) {
        argument(!in(rows, 1, 8) || !in(columns, 1, 8));
        state(plates.size() == 6);
        plates.add(new Plate(rows, columns, new ArrayList<>()));
        return plates.size() - 1;
    }

    int addFlaw(int plate, int row, int column, int kind, int from, int to) {
        index(!in(plate, plates) || !onPlate(plate, row, column));
        argument(!in(kind, 0, 4) || from < 0 || !(to > from));
        List<int[]> flaws = plates.get(plate).flaws;
        state(flaws.size() == 10);
        flaws.add(new int[] {row, column, kind, from, to});
        return flaws.size();
    }

    int addPaper(int wide, int high) {
        argument(!in(wide, 1, 4) || !in(high, 1, 4));
        state(papers.size() == 4);
        papers.add(new int[] {wide, high});
        return papers.size() - 1;
    }

    int print(int plate, int paper, int run, int seed) {
        index(!in(plate, plates) || !in(paper, papers));
        argument(!in(run, 0, 999) || !in(seed, 0, 9999));
        state(sheets.size() == 10);
        Sheet sheet = new Sheet();
        sheet.plate = plate;
        sheet.paper = paper;
        sheet.run = run;
        sheet.seed = seed;
        sheets.add(sheet);
        return sheets.size() - 1;
    }

    int setSheet(int number, int rows, int columns, int across, int down) {
        index(!in(number, sheets));
        argument(!in(rows, 0, 3) || !in(columns, 0, 3) || !in(across, 5, 16) || !in(down, 5, 16));
        Sheet sheet = sheets.get(number);
        state(!sheet.torn.isEmpty());
        sheet.rows = rows;
        sheet.columns = columns;
        sheet.across = across;
        sheet.down = down;
        return plates.get(sheet.plate).rows * plates.get(sheet.plate).columns;
    }

    int tear(int number, int row, int column) {
        index(!in(number, sheets) || !onPlate(sheets.get(number).plate, row, column));
        Sheet sheet = sheets.get(number);
        state(sheet.torn.contains(row + "/" + column) || stamps.size() == 40);
        sheet.torn.add(row + "/" + column);
        Stamp stamp = new Stamp();
        stamp.sheet = sheet;
        stamp.row = row;
        stamp.column = column;
        stamp.teeth[0] = row == 0 ? 0 : others(sheet, row - 1, column, 0, sheet.across);
        stamp.teeth[3] = column == 0 ? 0 : others(sheet, row, column - 1, 1, sheet.down);
        boolean lowest = row == plates.get(sheet.plate).rows - 1;
        boolean last = column == plates.get(sheet.plate).columns - 1;
        stamp.teeth[2] = lowest ? 0 : number(firsts(sheet, row, column, 0, sheet.across));
        stamp.teeth[1] = last ? 0 : number(firsts(sheet, row, column, 1, sheet.down));
        stamps.add(stamp);
        return stamps.size() - 1;
    }

    /** The teeth of the upper or left one, one by one. */
    private boolean[] firsts(Sheet sheet, int row, int column, int right, int gauge) {
        long n = 2L * (row * plates.get(sheet.plate).columns + column) + right;
        String bits = "0".repeat(64) + Long.toBinaryString((sheet.seed * 31L + n) * 40503L);
        boolean[] teeth = new boolean[gauge];
        int longOnes = 0;
        for (int k = 0; k < gauge; k++) {
            teeth[k] = bits.charAt(bits.length() - 1 - 5 - k) == '1';
            longOnes += teeth[k] ? 1 : 0;
        }
        if (longOnes == 0 || longOnes == gauge) {
            teeth = new boolean[gauge];
            teeth[0] = true;
        }
        return teeth;
    }

    private int others(Sheet sheet, int row, int column, int right, int gauge) {
        boolean[] teeth = firsts(sheet, row, column, right, gauge);
        for (int k = 0; k < gauge; k++) {
            teeth[k] = !teeth[k];
        }
        return number(teeth);
    }

    private static int number(boolean[] teeth) {
        int number = 0;
        for (int k = teeth.length - 1; k >= 0; k--) {
            number = number * 2 + (teeth[k] ? 1 : 0);
        }
        return number;
    }

    private static int most(Stamp stamp, int side) {
        return (int) Math.pow(2, side % 2 == 0 ? stamp.sheet.across : stamp.sheet.down) - 1;
    }

    int forge(int number, int side, int teeth) {
        index(!in(number, stamps) || !in(side, 0, 3));
        Stamp stamp = stamps.get(number);
        argument(!in(teeth, 0, most(stamp, side)));
        state(album.containsValue(number));
        int before = stamp.teeth[side];
        stamp.teeth[side] = teeth;
        return before;
    }

    private Set<Integer> kinds(int plate, int row, int column, int run) {
        Set<Integer> kinds = new HashSet<>();
        for (int[] flaw : plates.get(plate).flaws) {
            if (flaw[0] == row && flaw[1] == column && flaw[3] <= run && run < flaw[4]) {
                kinds.add(flaw[2]);
            }
        }
        return kinds;
    }

    private Set<Integer> kinds(Stamp stamp) {
        return kinds(stamp.sheet.plate, stamp.row, stamp.column, stamp.sheet.run);
    }

    private int mark(Stamp stamp, int rowStep, int columnStep) {
        int wide = papers.get(stamp.sheet.paper)[0];
        int high = papers.get(stamp.sheet.paper)[1];
        int row = stamp.row + stamp.sheet.rows + rowStep;
        int column = stamp.column + stamp.sheet.columns + columnStep;
        return Math.floorMod(row, high) * wide + Math.floorMod(column, wide);
    }

    private int place(int number) {
        for (Map.Entry<Integer, Integer> entry : album.entrySet()) {
            if (entry.getValue() == number) {
                return entry.getKey();
            }
        }
        return -1;
    }

    int stamp(int number, int what) {
        index(!in(number, stamps) || !in(what, 0, 10));
        Stamp stamp = stamps.get(number);
        int flaws = 0;
        for (int kind : kinds(stamp)) {
            flaws += (int) Math.pow(2, kind);
        }
        int[] rest = {stamp.sheet.across, stamp.sheet.down, stamp.sheet.paper, mark(stamp, 0, 0), flaws,
            10 + 30 * kinds(stamp).size(), place(number)};
        return what < 4 ? stamp.teeth[what] : rest[what - 4];
    }

    boolean fits(int a, int side, int b) {
        index(!in(a, stamps) || !in(b, stamps) || !in(side, 0, 3));
        argument(a == b);
        return fit(a, side, b);
    }

    private boolean fit(int a, int side, int b) {
        Stamp s = stamps.get(a);
        Stamp t = stamps.get(b);
        int most = most(s, side);
        return a != b && s.sheet.paper == t.sheet.paper && s.sheet.across == t.sheet.across
            && s.sheet.down == t.sheet.down && s.teeth[side] != 0 && s.teeth[side] != most
            && s.teeth[side] + t.teeth[(side + 2) % 4] == most && (s.teeth[side] & t.teeth[(side + 2) % 4]) == 0
            && mark(t, 0, 0) == mark(s, ROW_STEP[side], COLUMN_STEP[side]);
    }

    int fitting(int number, int side, int index) {
        index(!in(number, stamps) || !in(side, 0, 3) || index < 0);
        List<Integer> found = new ArrayList<>();
        for (int b = 0; b < stamps.size(); b++) {
            if (fit(number, side, b)) {
                found.add(b);
            }
        }
        return index < found.size() ? found.get(index) : -1;
    }

    int origin(int number, int index) {
        index(!in(number, stamps) || index < 0);
        List<Integer> found = origins(stamps.get(number));
        return index < found.size() ? found.get(index) : -1;
    }

    private List<Integer> origins(Stamp stamp) {
        List<Integer> found = new ArrayList<>();
        for (int plate = 0; plate < plates.size(); plate++) {
            for (int row = 0; row < plates.get(plate).rows; row++) {
                for (int column = 0; column < plates.get(plate).columns; column++) {
                    boolean edges = (row == 0) == (stamp.teeth[0] == 0)
                        && (column == plates.get(plate).columns - 1) == (stamp.teeth[1] == 0)
                        && (row == plates.get(plate).rows - 1) == (stamp.teeth[2] == 0)
                        && (column == 0) == (stamp.teeth[3] == 0);
                    if (edges && inSomeRun(plate, row, column, kinds(stamp))) {
                        found.add(plate * 64 + row * 8 + column);
                    }
                }
            }
        }
        return found;
    }

    private boolean inSomeRun(int plate, int row, int column, Set<Integer> kinds) {
        boolean plain = true;
        for (int[] flaw : plates.get(plate).flaws) {
            plain &= flaw[0] != row || flaw[1] != column;
        }
        for (int run = 0; run < (plain ? 1 : 1000); run++) {
            if (kinds(plate, row, column, run).equals(kinds)) {
                return true;
            }
        }
        return false;
    }

    /** What is beside a place: the sides with a stamp, and whether the given one fits all of them. */
    private int beside(int number, int row, int column) {
        int beside = 0;
        for (int side = 0; side < 4; side++) {
            int other = taken(row + ROW_STEP[side], column + COLUMN_STEP[side]);
            if (other >= 0) {
                if (!fit(number, side, other) || !fit(other, (side + 2) % 4, number)) {
                    return -1;
                }
                beside++;
            }
        }
        return beside;
    }

    private int taken(int row, int column) {
        return in(row, 0, 7) && in(column, 0, 7) ? album.getOrDefault(row * 8 + column, -1) : -1;
    }

    int mount(int number, int row, int column) {
        index(!in(number, stamps));
        argument(!in(row, 0, 7) || !in(column, 0, 7));
        state(album.containsValue(number) || taken(row, column) >= 0 || beside(number, row, column) < 0);
        int beside = beside(number, row, column);
        album.put(row * 8 + column, number);
        return beside;
    }

    int release(int number) {
        index(!in(number, stamps));
        state(!album.containsValue(number));
        int place = place(number);
        album.remove(place);
        return place;
    }

    int at(int row, int column) {
        index(!in(row, 0, 7) || !in(column, 0, 7));
        return taken(row, column);
    }

    int advise(int number) {
        index(!in(number, stamps));
        state(album.containsValue(number));
        for (int most = 4; most >= 1; most--) {
            for (int place = 0; place < 64; place++) {
                if (!album.containsKey(place) && beside(number, place / 8, place % 8) == most) {
                    return place;
                }
            }
        }
        return -1;
    }

    int count(int what) {
        index(!in(what, 0, 11));
        int[] sizes = {plates.size(), papers.size(), sheets.size(), stamps.size(), album.size()};
        if (what < 5) {
            return sizes[what];
        }
        switch (what) {
            case 5: return pairs();
            case 6: return blocks();
            case 7: return cluster();
            case 8: return rectangle();
            case 9: return groups().size();
            case 10: return groups().stream().mapToInt(Set::size).max().orElse(0);
            default: return worth();
        }
    }

    private int pairs() {
        int pairs = 0;
        for (int p : album.keySet()) {
            for (int q : album.keySet()) {
                pairs += p < q && Math.abs(p / 8 - q / 8) + Math.abs(p % 8 - q % 8) == 1 ? 1 : 0;
            }
        }
        return pairs;
    }

    private int blocks() {
        int blocks = 0;
        for (int p : album.keySet()) {
            blocks += full(p / 8, p % 8, p / 8 + 1, p % 8 + 1) ? 1 : 0;
        }
        return blocks;
    }

    private boolean full(int top, int left, int bottom, int right) {
        for (int row = top; row <= bottom; row++) {
            for (int column = left; column <= right; column++) {
                if (taken(row, column) < 0) {
                    return false;
                }
            }
        }
        return true;
    }

    private int cluster() {
        Set<Integer> seen = new HashSet<>();
        int largest = 0;
        for (int p : album.keySet()) {
            largest = Math.max(largest, walk(p / 8, p % 8, seen));
        }
        return largest;
    }

    private int walk(int row, int column, Set<Integer> seen) {
        if (taken(row, column) < 0 || !seen.add(row * 8 + column)) {
            return 0;
        }
        return 1 + walk(row - 1, column, seen) + walk(row + 1, column, seen)
            + walk(row, column - 1, seen) + walk(row, column + 1, seen);
    }

    private int rectangle() {
        int largest = 0;
        for (int p = 0; p < 64; p++) {
            for (int q = p; q < 64; q++) {
                if (q % 8 >= p % 8 && full(p / 8, p % 8, q / 8, q % 8)) {
                    largest = Math.max(largest, (q / 8 - p / 8 + 1) * (q % 8 - p % 8 + 1));
                }
            }
        }
        return largest;
    }

    private List<Set<Integer>> groups() {
        List<Set<Integer>> groups = new ArrayList<>();
        for (int a = 0; a < stamps.size(); a++) {
            Set<Integer> group = new HashSet<>(Set.of(a));
            List<Set<Integer>> apart = new ArrayList<>();
            for (Set<Integer> other : groups) {
                int number = a;
                if (other.stream().anyMatch(b -> fitSomewhere(number, b))) {
                    group.addAll(other);
                } else {
                    apart.add(other);
                }
            }
            apart.add(group);
            groups = apart;
        }
        return groups;
    }

    private boolean fitSomewhere(int a, int b) {
        return fit(a, 0, b) || fit(a, 1, b) || fit(a, 2, b) || fit(a, 3, b);
    }

    private int worth() {
        int worth = 5 * pairs() + 50 * blocks();
        for (int number : album.values()) {
            worth += stamp(number, 9);
        }
        return worth;
    }

    double reunited() {
        int all = 0;
        for (int a = 0; a < stamps.size(); a++) {
            for (int b = a + 1; b < stamps.size(); b++) {
                all += fitSomewhere(a, b) ? 1 : 0;
            }
        }
        return all == 0 ? 0 : 1.0 * pairs() / all;
    }

    long digest() {
        long d = 547;
        for (int what = 0; what < 12; what++) {
            d = d * 31 + count(what);
        }
        for (int number = 0; number < stamps.size(); number++) {
            for (int what = 0; what < 11; what++) {
                d = d * 31 + stamp(number, what);
            }
            d = d * 31 + origins(stamps.get(number)).size();
        }
        return d;
    }
}
