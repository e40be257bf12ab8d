/** A bureau of stamps and their perforations. */
public final class StampBureau {

    private static final int MAX_PLATES = 6;
    private static final int MAX_FLAWS = 10;
    private static final int MAX_PAPERS = 4;
    private static final int MAX_SHEETS = 10;
    private static final int MAX_STAMPS = 40;

    private static final int MAX_ROWS = 8;
    private static final int PLACES = MAX_ROWS * MAX_ROWS;
    private static final int MAX_KIND = 4;
    private static final int MAX_PATTERN = 4;
    private static final int MAX_RUN = 999;
    private static final int MAX_SEED = 9999;
    private static final int MAX_SHIFT = 3;
    private static final int MIN_GAUGE = 5;
    private static final int MAX_GAUGE = 16;
    private static final int FIRST_GAUGE = 10;

    private static final int SIDES = 4;
    private static final int ABOVE = 0;
    private static final int RIGHT = 1;
    private static final int BELOW = 2;
    private static final int LEFT = 3;

    private static final int BASE_PRICE = 10;
    private static final int FLAW_PRICE = 30;
    private static final int PAIR_WORTH = 5;
    private static final int BLOCK_WORTH = 50;

    private static final int NONE = -1;
    private static final int COUNTS = 12;
    private static final int DETAILS = 11;

    private final Plate[] plates = new Plate[MAX_PLATES];
    private final Paper[] papers = new Paper[MAX_PAPERS];
    private final Sheet[] sheets = new Sheet[MAX_SHEETS];
    private final Stamp[] stamps = new Stamp[MAX_STAMPS];
    private final Album album = new Album();
    private final int[] groupOf = new int[MAX_STAMPS];
    private int plateCount = 0;
    private int paperCount = 0;
    private int sheetCount = 0;
    private int stampCount = 0;

    public StampBureau() {
    }

    // ---- plates, papers and sheets

    public int addPlate(int rows, int columns) throws IllegalArgumentException, IllegalStateException {
        if (isOutside(rows, 1, MAX_ROWS) || isOutside(columns, 1, MAX_ROWS)) {
            throw new IllegalArgumentException("rows and columns are 1 to 8");
        }
        if (plateCount >= plates.length) {
            throw new IllegalStateException("there are 6 plates");
        }
        int number = plateCount;
        plates[number] = new Plate(rows, columns);
        plateCount++;
        return number;
    }

    public int addFlaw(int plate, int row, int column, int kind, int from, int to)
            throws IndexOutOfBoundsException, IllegalArgumentException, IllegalStateException {
        Plate flawed = plateNumbered(plate);
        if (flawed == null || !flawed.hasPlace(row, column)) {
            throw new IndexOutOfBoundsException("no such place on such a plate");
        }
        if (isOutside(kind, 0, MAX_KIND) || from < 0 || to <= from) {
            throw new IllegalArgumentException("kind is 0 to 4, from at least 0, to greater than from");
        }
        if (flawed.isFull()) {
            throw new IllegalStateException("the plate has 10 flaws");
        }
        return flawed.putFlaw(new Flaw(placeAt(row, column), kind, from, to));
    }

    public int addPaper(int wide, int high) throws IllegalArgumentException, IllegalStateException {
        if (isOutside(wide, 1, MAX_PATTERN) || isOutside(high, 1, MAX_PATTERN)) {
            throw new IllegalArgumentException("wide and high are 1 to 4");
        }
        if (paperCount >= papers.length) {
            throw new IllegalStateException("there are 4 papers");
        }
        int number = paperCount;
        papers[number] = new Paper(number, wide, high);
        paperCount++;
        return number;
    }

    public int print(int plate, int paper, int run, int seed)
            throws IndexOutOfBoundsException, IllegalArgumentException, IllegalStateException {
        Plate printed = plateNumbered(plate);
        Paper used = paperNumbered(paper);
        if (printed == null || used == null) {
            throw new IndexOutOfBoundsException("no such plate or paper");
        }
        if (isOutside(run, 0, MAX_RUN) || isOutside(seed, 0, MAX_SEED)) {
            throw new IllegalArgumentException("run is 0 to 999, seed 0 to 9999");
        }
        if (sheetCount >= sheets.length) {
            throw new IllegalStateException("there are 10 sheets");
        }
        int number = sheetCount;
        sheets[number] = new Sheet(printed, used, run, seed);
        sheetCount++;
        return number;
    }

    public int setSheet(int sheet, int rows, int columns, int across, int down)
            throws IndexOutOfBoundsException, IllegalArgumentException, IllegalStateException {
        Sheet changed = sheetNumbered(sheet);
        if (changed == null) {
            throw new IndexOutOfBoundsException("no such sheet");
        }
        if (isOutside(rows, 0, MAX_SHIFT) || isOutside(columns, 0, MAX_SHIFT)
                || isOutside(across, MIN_GAUGE, MAX_GAUGE) || isOutside(down, MIN_GAUGE, MAX_GAUGE)) {
            throw new IllegalArgumentException("shifts are 0 to 3, gauges 5 to 16");
        }
        if (changed.tornPlaces != 0) {
            throw new IllegalStateException("something was torn from the sheet");
        }
        changed.shiftRows = rows;
        changed.shiftColumns = columns;
        changed.across = across;
        changed.down = down;
        return changed.plate.rows * changed.plate.columns;
    }

    // ---- stamps

    public int tear(int sheet, int row, int column) throws IndexOutOfBoundsException, IllegalStateException {
        Sheet source = sheetNumbered(sheet);
        if (source == null || !source.plate.hasPlace(row, column)) {
            throw new IndexOutOfBoundsException("no such place on such a sheet");
        }
        if (source.isTorn(row, column) || stampCount >= stamps.length) {
            throw new IllegalStateException("it was torn before, or there are 40 stamps");
        }
        int number = stampCount;
        stamps[number] = new Stamp(number, source, row, column);
        stampCount++;
        source.noteTorn(row, column);
        return number;
    }

    public int forge(int stamp, int side, int teeth)
            throws IndexOutOfBoundsException, IllegalArgumentException, IllegalStateException {
        Stamp forged = stampNumbered(stamp);
        if (forged == null || !isSide(side)) {
            throw new IndexOutOfBoundsException("no such stamp or side");
        }
        if (isOutside(teeth, 0, forged.sheet.allTeeth(side))) {
            throw new IllegalArgumentException("more teeth than the gauge allows");
        }
        if (forged.isMounted()) {
            throw new IllegalStateException("the stamp is mounted");
        }
        int before = forged.teethAt(side);
        forged.putTeeth(side, teeth);
        return before;
    }

    public int stamp(int stamp, int what) throws IndexOutOfBoundsException {
        Stamp told = stampNumbered(stamp);
        if (told == null || isOutside(what, 0, DETAILS - 1)) {
            throw new IndexOutOfBoundsException("no such stamp, or what is not 0 to 10");
        }
        return told.detail(what);
    }

    public boolean fits(int a, int side, int b) throws IndexOutOfBoundsException, IllegalArgumentException {
        Stamp first = stampNumbered(a);
        Stamp second = stampNumbered(b);
        if (first == null || second == null || !isSide(side)) {
            throw new IndexOutOfBoundsException("no such stamp or side");
        }
        if (a == b) {
            throw new IllegalArgumentException("both stamps are the same");
        }
        return first.joins(side, second);
    }

    public int fitting(int stamp, int side, int index) throws IndexOutOfBoundsException {
        Stamp first = stampNumbered(stamp);
        if (first == null || !isSide(side) || index < 0) {
            throw new IndexOutOfBoundsException("no such stamp or side, or index is less than 0");
        }
        int left = index;
        for (Stamp second : stamps) {
            if (second != null && first.joins(side, second)) {
                if (left == 0) {
                    return second.number;
                }
                left--;
            }
        }
        return NONE;
    }

    public int origin(int stamp, int index) throws IndexOutOfBoundsException {
        Stamp told = stampNumbered(stamp);
        if (told == null || index < 0) {
            throw new IndexOutOfBoundsException("no such stamp, or index is less than 0");
        }
        int flaws = told.flaws();
        int straight = told.straightSides();
        int left = index;
        for (int number = 0; number < plateCount; number++) {
            Plate plate = plateNumbered(number);
            int here = plate == null ? 0 : plate.placesLike(flaws, straight);
            if (plate != null && left < here) {
                return number * PLACES + plate.placeLike(flaws, straight, left);
            }
            left -= here;
        }
        return NONE;
    }

    // ---- the album

    public int mount(int stamp, int row, int column)
            throws IndexOutOfBoundsException, IllegalArgumentException, IllegalStateException {
        Stamp mounted = stampNumbered(stamp);
        if (mounted == null) {
            throw new IndexOutOfBoundsException("no such stamp");
        }
        if (!Album.hasPlace(row, column)) {
            throw new IllegalArgumentException("row and column are 0 to 7");
        }
        if (mounted.isMounted() || album.stampOn(row, column) != null) {
            throw new IllegalStateException("the stamp is mounted, or the place is taken");
        }
        int beside = album.fittingBeside(mounted, row, column);
        if (beside == NONE) {
            throw new IllegalStateException("it does not fit one that is beside it");
        }
        album.put(mounted, placeAt(row, column));
        return beside;
    }

    public int release(int stamp) throws IndexOutOfBoundsException, IllegalStateException {
        Stamp released = stampNumbered(stamp);
        if (released == null) {
            throw new IndexOutOfBoundsException("no such stamp");
        }
        if (!released.isMounted()) {
            throw new IllegalStateException("the stamp is not mounted");
        }
        int place = released.place;
        album.take(released);
        return place;
    }

    public int at(int row, int column) throws IndexOutOfBoundsException {
        if (!Album.hasPlace(row, column)) {
            throw new IndexOutOfBoundsException("row and column are 0 to 7");
        }
        Stamp mounted = album.stampOn(row, column);
        return mounted == null ? NONE : mounted.number;
    }

    public int advise(int stamp) throws IndexOutOfBoundsException, IllegalStateException {
        Stamp loose = stampNumbered(stamp);
        if (loose == null) {
            throw new IndexOutOfBoundsException("no such stamp");
        }
        if (loose.isMounted()) {
            throw new IllegalStateException("the stamp is mounted");
        }
        return album.bestPlaceFor(loose);
    }

    public int count(int what) throws IndexOutOfBoundsException {
        if (isOutside(what, 0, COUNTS - 1)) {
            throw new IndexOutOfBoundsException("what is not 0 to 11");
        }
        return countOf(what);
    }

    public double reunited() {
        int possible = fittingPairs();
        return possible == 0 ? 0.0 : (double) album.pairs() / (double) possible;
    }

    public long digest() {
        long d = 547;
        for (int what = 0; what < COUNTS; what++) {
            d = d * 31 + countOf(what);
        }
        for (Stamp told : stamps) {
            if (told != null) {
                for (int what = 0; what < DETAILS; what++) {
                    d = d * 31 + told.detail(what);
                }
                d = d * 31 + originsOf(told);
            }
        }
        return d;
    }

    // ---- what stands under a number; null if nothing does

    private Plate plateNumbered(int number) {
        return number >= 0 && number < plates.length ? plates[number] : null;
    }

    private Paper paperNumbered(int number) {
        return number >= 0 && number < papers.length ? papers[number] : null;
    }

    private Sheet sheetNumbered(int number) {
        return number >= 0 && number < sheets.length ? sheets[number] : null;
    }

    private Stamp stampNumbered(int number) {
        return number >= 0 && number < stamps.length ? stamps[number] : null;
    }

    // ---- what is counted

    private int countOf(int what) {
        switch (what) {
            case 0: return plateCount;
            case 1: return paperCount;
            case 2: return sheetCount;
            case 3: return stampCount;
            case 4: return album.mountedStamps();
            case 5: return album.pairs();
            case 6: return album.blocks();
            case 7: return album.largestCluster();
            case 8: return album.largestRectangle();
            case 9: return groups();
            case 10: return largestGroup();
            default: return album.worth();
        }
    }

    private int originsOf(Stamp told) {
        int flaws = told.flaws();
        int straight = told.straightSides();
        int origins = 0;
        for (Plate plate : plates) {
            if (plate != null) {
                origins += plate.placesLike(flaws, straight);
            }
        }
        return origins;
    }

    private int fittingPairs() {
        int pairs = 0;
        for (int b = 1; b < stampCount; b++) {
            for (int a = 0; a < b; a++) {
                if (joinSomewhere(a, b)) {
                    pairs++;
                }
            }
        }
        return pairs;
    }

    private boolean joinSomewhere(int a, int b) {
        Stamp first = stampNumbered(a);
        Stamp second = stampNumbered(b);
        if (first == null || second == null) {
            return false;
        }
        for (int side = 0; side < SIDES; side++) {
            if (first.joins(side, second)) {
                return true;
            }
        }
        return false;
    }

    private int groups() {
        findGroups();
        int groups = 0;
        for (int number = 0; number < stampCount; number++) {
            // The stamp that gave a group its name stays in it, so each group has just one such.
            if (groupNamed(number) == number) {
                groups++;
            }
        }
        return groups;
    }

    private int largestGroup() {
        findGroups();
        int largest = 0;
        for (int name = 0; name < stampCount; name++) {
            int size = 0;
            for (int number = 0; number < stampCount; number++) {
                if (groupNamed(number) == name) {
                    size++;
                }
            }
            largest = Math.max(largest, size);
        }
        return largest;
    }

    /** Names each stamp's group by the number of one of its stamps. */
    private void findGroups() {
        for (int number = 0; number < groupOf.length; number++) {
            groupOf[number] = number;
        }
        for (int b = 1; b < stampCount; b++) {
            for (int a = 0; a < b; a++) {
                if (groupNamed(a) != groupNamed(b) && joinSomewhere(a, b)) {
                    renameGroup(groupNamed(b), groupNamed(a));
                }
            }
        }
    }

    private int groupNamed(int number) {
        return number >= 0 && number < groupOf.length ? groupOf[number] : NONE;
    }

    private void renameGroup(int before, int after) {
        for (int number = 0; number < groupOf.length; number++) {
            if (groupOf[number] == before) {
                groupOf[number] = after;
            }
        }
    }

    // ---- numbers, sides and places

    private static boolean isOutside(int number, int least, int most) {
        return number < least || number > most;
    }

    private static boolean isSide(int side) {
        return side >= 0 && side < SIDES;
    }

    private static int opposite(int side) {
        return (side + 2) % SIDES;
    }

    private static int rowStep(int side) {
        return side == ABOVE ? -1 : side == BELOW ? 1 : 0;
    }

    private static int columnStep(int side) {
        return side == LEFT ? -1 : side == RIGHT ? 1 : 0;
    }

    private static int placeAt(int row, int column) {
        return row * MAX_ROWS + column;
    }

    private static int remainder(int number, int divisor) {
        return divisor > 0 ? number % divisor : 0;
    }

    /** A flaw at a place of a plate, in the runs that it lasts. */
    private static final class Flaw {
        final int place;
        final int kind;
        final int from;
        final int to;

        Flaw(int place, int kind, int from, int to) {
            this.place = place;
            this.kind = kind;
            this.from = from;
            this.to = to;
        }

        boolean isThere(int where, int run) {
            return place == where && from <= run && run < to;
        }
    }

    /** A plate with its flaws; a set of kinds of flaws is the sum of their powers of two. */
    private static final class Plate {
        final int rows;
        final int columns;
        private final Flaw[] flaws = new Flaw[MAX_FLAWS];
        private int flawCount = 0;
        // For each place the sets of flaws that it shows in some run: the bit s for the set s (0 to 31).
        private final int[] shownSets = new int[PLACES];

        Plate(int rows, int columns) {
            this.rows = rows;
            this.columns = columns;
            for (int place = 0; place < shownSets.length; place++) {
                shownSets[place] = 1;
            }
        }

        boolean hasPlace(int row, int column) {
            return row >= 0 && row < rows && column >= 0 && column < columns;
        }

        boolean isFull() {
            return flawCount >= flaws.length;
        }

        int putFlaw(Flaw flaw) {
            if (!isFull()) {
                flaws[flawCount] = flaw;
                flawCount++;
                findShownSets(flaw.place);
            }
            return flawCount;
        }

        int flawsIn(int place, int run) {
            int set = 0;
            for (Flaw flaw : flaws) {
                if (flaw != null && flaw.isThere(place, run)) {
                    set |= 1 << flaw.kind;
                }
            }
            return set;
        }

        private void findShownSets(int place) {
            if (place < 0 || place >= shownSets.length) {
                return;
            }
            // The flaws of a place change only where one of its flaws begins or ends.
            int sets = 1 << flawsIn(place, 0);
            for (Flaw flaw : flaws) {
                if (flaw != null && flaw.place == place) {
                    sets |= setIn(place, flaw.from) | setIn(place, flaw.to);
                }
            }
            shownSets[place] = sets;
        }

        private int setIn(int place, int run) {
            return run <= MAX_RUN ? 1 << flawsIn(place, run) : 0;
        }

        int placesLike(int set, int straight) {
            int found = 0;
            for (int row = 0; row < rows; row++) {
                for (int column = 0; column < columns; column++) {
                    if (isLike(row, column, set, straight)) {
                        found++;
                    }
                }
            }
            return found;
        }

        int placeLike(int set, int straight, int index) {
            int left = index;
            for (int row = 0; row < rows; row++) {
                for (int column = 0; column < columns; column++) {
                    if (isLike(row, column, set, straight)) {
                        if (left == 0) {
                            return placeAt(row, column);
                        }
                        left--;
                    }
                }
            }
            return NONE;
        }

        private boolean isLike(int row, int column, int set, int straight) {
            int place = placeAt(row, column);
            return edges(row, column) == straight && place >= 0 && place < shownSets.length
                    && ((shownSets[place] >>> set) & 1) == 1;
        }

        private int edges(int row, int column) {
            int aboveOrBelow = (row == 0 ? 1 << ABOVE : 0) | (row == rows - 1 ? 1 << BELOW : 0);
            int leftOrRight = (column == 0 ? 1 << LEFT : 0) | (column == columns - 1 ? 1 << RIGHT : 0);
            return aboveOrBelow | leftOrRight;
        }
    }

    /** A paper with the size of the pattern of its watermark. */
    private static final class Paper {
        final int number;
        final int wide;
        final int high;

        Paper(int number, int wide, int high) {
            this.number = number;
            this.wide = wide;
            this.high = high;
        }
    }

    /** A printed sheet, with its perforation. */
    private static final class Sheet {
        final Plate plate;
        final Paper paper;
        final int run;
        private final int seed;
        int shiftRows = 0;
        int shiftColumns = 0;
        int across = FIRST_GAUGE;
        int down = FIRST_GAUGE;
        // The bit row * 8 + column for each place that was torn.
        long tornPlaces = 0L;

        Sheet(Plate plate, Paper paper, int run, int seed) {
            this.plate = plate;
            this.paper = paper;
            this.run = run;
            this.seed = seed;
        }

        boolean isTorn(int row, int column) {
            return ((tornPlaces >>> placeAt(row, column)) & 1L) == 1L;
        }

        void noteTorn(int row, int column) {
            tornPlaces |= 1L << placeAt(row, column);
        }

        int allTeeth(int side) {
            int gauge = side == ABOVE || side == BELOW ? across : down;
            return (1 << gauge) - 1;
        }

        int printedTeeth(int row, int column, int side) {
            int besideRow = row + rowStep(side);
            int besideColumn = column + columnStep(side);
            if (!plate.hasPlace(besideRow, besideColumn)) {
                return 0;
            }
            if (side == RIGHT || side == BELOW) {
                return cutTeeth(row, column, side);
            }
            return allTeeth(side) - cutTeeth(besideRow, besideColumn, opposite(side));
        }

        /** The teeth of a stamp towards the one to its right or below it. */
        private int cutTeeth(int row, int column, int side) {
            int n = 2 * (row * plate.columns + column) + (side == RIGHT ? 1 : 0);
            int x = (seed * 31 + n) * 40503;
            int all = allTeeth(side);
            int teeth = (x >>> 5) & all;
            return teeth == 0 || teeth == all ? 1 : teeth;
        }
    }

    /** A torn stamp; its sheet is set up no more, so what it has of it stays as it is. */
    private static final class Stamp {
        final int number;
        final Sheet sheet;
        private final int row;
        private final int column;
        private final int markRow;
        private final int markColumn;
        private final int[] teeth = new int[SIDES];
        // Where it is mounted: row * 8 + column.
        int place = NONE;

        Stamp(int number, Sheet sheet, int row, int column) {
            this.number = number;
            this.sheet = sheet;
            this.row = row;
            this.column = column;
            this.markRow = remainder(row + sheet.shiftRows, sheet.paper.high);
            this.markColumn = remainder(column + sheet.shiftColumns, sheet.paper.wide);
            for (int side = 0; side < teeth.length; side++) {
                teeth[side] = sheet.printedTeeth(row, column, side);
            }
        }

        boolean isMounted() {
            return place != NONE;
        }

        int teethAt(int side) {
            return side >= 0 && side < teeth.length ? teeth[side] : 0;
        }

        void putTeeth(int side, int other) {
            if (side >= 0 && side < teeth.length) {
                teeth[side] = other;
            }
        }

        int flaws() {
            return sheet.plate.flawsIn(placeAt(row, column), sheet.run);
        }

        int price() {
            return BASE_PRICE + FLAW_PRICE * Integer.bitCount(flaws());
        }

        int straightSides() {
            int straight = 0;
            for (int side = 0; side < teeth.length; side++) {
                if (teeth[side] == 0) {
                    straight |= 1 << side;
                }
            }
            return straight;
        }

        int detail(int what) {
            switch (what) {
                case 4: return sheet.across;
                case 5: return sheet.down;
                case 6: return sheet.paper.number;
                case 7: return markRow * sheet.paper.wide + markColumn;
                case 8: return flaws();
                case 9: return price();
                case 10: return place;
                default: return teethAt(what);
            }
        }

        boolean joins(int side, Stamp other) {
            int all = sheet.allTeeth(side);
            int mine = teethAt(side);
            return mine != 0 && mine != all && other.teethAt(opposite(side)) == all - mine
                    && number != other.number && hasPaperAndGaugesOf(other) && hasMarkBeside(side, other);
        }

        private boolean hasPaperAndGaugesOf(Stamp other) {
            return sheet.paper.number == other.sheet.paper.number
                    && sheet.across == other.sheet.across && sheet.down == other.sheet.down;
        }

        private boolean hasMarkBeside(int side, Stamp other) {
            int high = sheet.paper.high;
            int wide = sheet.paper.wide;
            // The size of the pattern is added so that a step back from 0 stays in it.
            return other.markRow == remainder(markRow + rowStep(side) + high, high)
                    && other.markColumn == remainder(markColumn + columnStep(side) + wide, wide);
        }
    }

    /** The album; a set of its places is a number with the bit row * 8 + column for each of them. */
    private static final class Album {
        private static final long LAST_COLUMN = 0x8080808080808080L;
        private static final long FIRST_COLUMN = 0x0101010101010101L;
        private static final int WHOLE_ROW = 0xFF;

        private final Stamp[] mounted = new Stamp[PLACES];

        static boolean hasPlace(int row, int column) {
            return row >= 0 && row < MAX_ROWS && column >= 0 && column < MAX_ROWS;
        }

        Stamp stampOn(int row, int column) {
            int place = placeAt(row, column);
            return hasPlace(row, column) && place < mounted.length ? mounted[place] : null;
        }

        void put(Stamp stamp, int place) {
            if (place >= 0 && place < mounted.length) {
                mounted[place] = stamp;
                stamp.place = place;
            }
        }

        void take(Stamp stamp) {
            int place = stamp.place;
            if (place >= 0 && place < mounted.length) {
                mounted[place] = null;
                stamp.place = NONE;
            }
        }

        /** How many stamps are beside a place; NONE if the stamp does not fit one of them there. */
        int fittingBeside(Stamp stamp, int row, int column) {
            int beside = 0;
            for (int side = 0; side < SIDES; side++) {
                Stamp neighbour = stampOn(row + rowStep(side), column + columnStep(side));
                if (neighbour != null) {
                    if (!stamp.joins(side, neighbour)) {
                        return NONE;
                    }
                    beside++;
                }
            }
            return beside;
        }

        int bestPlaceFor(Stamp stamp) {
            int best = NONE;
            int most = 0;
            for (int row = 0; row < MAX_ROWS; row++) {
                for (int column = 0; column < MAX_ROWS; column++) {
                    if (stampOn(row, column) == null) {
                        int beside = fittingBeside(stamp, row, column);
                        if (beside > most) {
                            most = beside;
                            best = placeAt(row, column);
                        }
                    }
                }
            }
            return best;
        }

        int mountedStamps() {
            return Long.bitCount(taken());
        }

        int pairs() {
            long taken = taken();
            return Long.bitCount(takenWithRight(taken)) + Long.bitCount(taken & (taken >>> MAX_ROWS));
        }

        int blocks() {
            long upper = takenWithRight(taken());
            return Long.bitCount(upper & (upper >>> MAX_ROWS));
        }

        int largestCluster() {
            long left = taken();
            int largest = 0;
            for (int place = 0; place < PLACES; place++) {
                if (((left >>> place) & 1L) == 1L) {
                    long cluster = clusterFrom(1L << place, left);
                    largest = Math.max(largest, Long.bitCount(cluster));
                    left &= ~cluster;
                }
            }
            return largest;
        }

        int largestRectangle() {
            long taken = taken();
            int largest = 0;
            for (int top = 0; top < MAX_ROWS; top++) {
                int common = WHOLE_ROW;
                for (int bottom = top; bottom < MAX_ROWS; bottom++) {
                    common &= (int) (taken >>> (bottom * MAX_ROWS));
                    largest = Math.max(largest, (bottom - top + 1) * longestStretch(common));
                }
            }
            return largest;
        }

        int worth() {
            int worth = PAIR_WORTH * pairs() + BLOCK_WORTH * blocks();
            for (Stamp stamp : mounted) {
                if (stamp != null) {
                    worth += stamp.price();
                }
            }
            return worth;
        }

        private long taken() {
            long taken = 0L;
            for (int place = 0; place < mounted.length; place++) {
                if (mounted[place] != null) {
                    taken |= 1L << place;
                }
            }
            return taken;
        }

        private static long takenWithRight(long taken) {
            return taken & (taken >>> 1) & ~LAST_COLUMN;
        }

        private static long clusterFrom(long start, long taken) {
            long cluster = start;
            // Each step adds a place or none is left to add, so as many steps as places are enough.
            for (int step = 0; step < PLACES; step++) {
                cluster |= placesBeside(cluster) & taken;
            }
            return cluster;
        }

        private static long placesBeside(long places) {
            return (places << MAX_ROWS) | (places >>> MAX_ROWS)
                    | ((places & ~LAST_COLUMN) << 1) | ((places & ~FIRST_COLUMN) >>> 1);
        }

        private static int longestStretch(int row) {
            int stretch = 0;
            // Each step shortens every stretch of bits by one.
            for (int rest = row; rest != 0 && stretch < MAX_ROWS; rest &= rest >>> 1) {
                stretch++;
            }
            return stretch;
        }
    }
}
