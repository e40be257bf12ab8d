/** Promises 13 to 19: the album, what is counted in it, and the checksum. */
public final class AlbumTest {
    private static final int HUGE = Integer.MAX_VALUE;
    private static final int LOW = Integer.MIN_VALUE;

    public static void main(String[] args) {
        mount();
        mountInOrder();
        mountAtTheEdges();
        release();
        at();
        advise();
        adviseTheLeastOfTheBest();
        countInOrder();
        countPairsBlocksAndClusters();
        countOverTheEdges();
        countRectangles();
        countGroups();
        countWorth();
        reunited();
        digest();
        Checks.end();
    }

    /** A bureau of one sheet, torn wholly; all stamps but those at its edges fit as they were. */
    private static StampBureau torn(int rows, int columns) {
        StampBureau x = new StampBureau();
        x.addPlate(rows, columns);
        x.addPaper(1, 1);
        x.print(0, 0, 0, 4321);
        for (int place = 0; place < rows * columns; place++) {
            x.tear(0, place / columns, place % columns);
        }
        return x;
    }

    /** A bureau of stamps that fit each other everywhere. */
    private static StampBureau alike(int stamps) {
        StampBureau x = new StampBureau();
        x.addPlate(5, 8);
        x.addPaper(1, 1);
        x.print(0, 0, 0, 0);
        for (int place = 0; place < stamps; place++) {
            x.tear(0, place / 8, place % 8);
            for (int side = 0; side < 4; side++) {
                x.forge(place, side, side < 2 ? 3 : 1020);
            }
        }
        return x;
    }

    private static void mount() {
        StampBureau x = torn(3, 3);
        Checks.due("mount", 0, x.mount(4, 3, 3));
        Checks.due("stamp 4's place", 27, x.stamp(4, 10));
        Checks.due("mount above", 1, x.mount(1, 2, 3));
        Checks.due("mount to the right", 1, x.mount(5, 3, 4));
        Checks.due("mount below", 1, x.mount(7, 4, 3));
        Checks.due("mount to the left", 1, x.mount(3, 3, 2));
        long before = x.digest();
        Checks.state("mount where it does not fit", () -> x.mount(0, 2, 4));
        Checks.state("mount where it fits one of two", () -> x.mount(8, 4, 2));
        Checks.state("mount a mounted one", () -> x.mount(4, 0, 0));
        Checks.state("mount a mounted one where it is", () -> x.mount(4, 3, 3));
        Checks.state("mount on a taken place", () -> x.mount(8, 3, 3));
        Checks.due("nothing changed", before, x.digest());
        Checks.due("mount in a corner", 2, x.mount(8, 4, 4));
        Checks.due("mount in a corner", 2, x.mount(0, 2, 2));
        Checks.due("mount apart", 0, x.mount(2, 0, 7));
        Checks.due("mount between", 2, x.mount(6, 4, 2));
        x.release(4);
        Checks.due("mount in the middle", 4, x.mount(4, 3, 3));
        Checks.due("the mounted ones", 9, x.count(4));
    }

    private static void mountInOrder() {
        StampBureau x = torn(2, 2);
        for (int wrong : new int[] {-1, 4, 40, HUGE, LOW}) {
            Checks.index("mount: stamp " + wrong, () -> x.mount(wrong, 8, 8));
        }
        for (int wrong : new int[] {-1, 8, HUGE, LOW}) {
            Checks.argument("mount: row " + wrong, () -> x.mount(0, wrong, 0));
            Checks.argument("mount: column " + wrong, () -> x.mount(0, 0, wrong));
        }
        Checks.due("none is mounted", 0, x.count(4));
        x.mount(0, 0, 0);
        Checks.argument("mount: a mounted one outside", () -> x.mount(0, 8, 0));
        Checks.state("mount: a mounted one", () -> x.mount(0, 1, 1));
    }

    private static void mountAtTheEdges() {
        StampBureau x = torn(2, 2);
        Checks.due("mount at the end of a row", 0, x.mount(0, 0, 7));
        Checks.due("the begin of the next row is not beside it", -1, x.advise(1));
        Checks.due("the begin of the next row is not beside it", 0, x.mount(1, 1, 0));
        Checks.due("the lowest place is not above it", 0, x.mount(3, 7, 0));
        Checks.due("the last place is not beside the first", 0, x.mount(2, 7, 7));
    }

    private static void release() {
        StampBureau x = torn(2, 2);
        x.mount(0, 3, 5);
        for (int wrong : new int[] {-1, 4, 40, HUGE, LOW}) {
            Checks.index("release: stamp " + wrong, () -> x.release(wrong));
        }
        Checks.state("release: not mounted", () -> x.release(1));
        Checks.due("release", 29, x.release(0));
        Checks.state("release: not mounted any more", () -> x.release(0));
        Checks.due("its place is empty", -1, x.at(3, 5));
        Checks.due("its place", -1, x.stamp(0, 10));
        Checks.due("another may stand there", 0, x.mount(1, 3, 5));
        Checks.due("and it elsewhere", 1, x.mount(0, 3, 4));
        Checks.due("release", 29, x.release(1));
        Checks.due("the other one stays", 0, x.at(3, 4));
        x.release(0);
        x.mount(0, 0, 0);
        Checks.due("release at the place 0", 0, x.release(0));
        Checks.due("none is mounted", 0, x.count(4));
    }

    private static void at() {
        StampBureau x = torn(2, 2);
        x.mount(0, 0, 0);
        x.mount(3, 7, 7);
        x.mount(2, 0, 7);
        x.mount(1, 7, 0);
        Checks.due("at", 0, x.at(0, 0));
        Checks.due("at", 3, x.at(7, 7));
        Checks.due("at", 2, x.at(0, 7));
        Checks.due("at", 1, x.at(7, 0));
        Checks.due("at", -1, x.at(1, 1));
        for (int wrong : new int[] {-1, 8, HUGE, LOW}) {
            Checks.index("at: row " + wrong, () -> x.at(wrong, 0));
            Checks.index("at: column " + wrong, () -> x.at(0, wrong));
        }
    }

    private static void advise() {
        StampBureau x = torn(3, 3);
        Checks.due("advise in an empty album", -1, x.advise(4));
        x.mount(1, 0, 0);
        Checks.due("advise below", 8, x.advise(4));
        Checks.due("advise to the left: outside", -1, x.advise(0));
        Checks.due("advise to the right", 1, x.advise(2));
        x.mount(3, 5, 5);
        Checks.due("advise the least", 8, x.advise(4));
        x.mount(7, 6, 6);
        Checks.due("advise the most", 46, x.advise(4));
        x.mount(0, 4, 6);
        Checks.due("advise not beside one that does not fit", 8, x.advise(4));
        x.release(1);
        Checks.due("advise: nowhere", -1, x.advise(4));
        x.release(0);
        Checks.due("advise the most again", 46, x.advise(4));
        x.mount(1, 0, 0);
        long before = x.digest();
        for (int wrong : new int[] {-1, 9, 40, HUGE, LOW}) {
            Checks.index("advise: stamp " + wrong, () -> x.advise(wrong));
        }
        Checks.state("advise: mounted", () -> x.advise(1));
        x.advise(4);
        Checks.due("nothing changed", before, x.digest());
        x.mount(4, 1, 0);
        Checks.state("advise: mounted", () -> x.advise(4));
    }

    private static void adviseTheLeastOfTheBest() {
        StampBureau x = alike(20);
        x.mount(0, 3, 3);
        Checks.due("advise above", 19, x.advise(1));
        x.mount(1, 5, 3);
        Checks.due("advise between", 35, x.advise(2));
        x.mount(2, 4, 4);
        Checks.due("advise between three", 35, x.advise(3));
        x.mount(3, 3, 5);
        Checks.due("advise the least of two with three beside", 28, x.advise(4));
        x.mount(4, 3, 4);
        Checks.due("advise the other one, not a lesser one with fewer", 35, x.advise(5));
        x.mount(5, 4, 3);
        x.release(2);
        Checks.due("advise one with two beside", 36, x.advise(6));
    }

    private static void countInOrder() {
        StampBureau x = torn(2, 3);
        for (int wrong : new int[] {-1, 12, HUGE, LOW}) {
            Checks.index("count(" + wrong + ")", () -> x.count(wrong));
        }
        x.addPlate(1, 1);
        x.addPlate(1, 1);
        x.addPaper(1, 1);
        x.print(1, 1, 0, 0);
        x.print(1, 1, 0, 0);
        x.print(1, 1, 0, 0);
        x.mount(3, 3, 3);
        int[] want = {3, 2, 4, 6, 1, 0, 0, 1, 1, 1, 6, 10};
        for (int what = 0; what < 12; what++) {
            Checks.due("count(" + what + ")", want[what], x.count(what));
        }
    }

    private static void mountAll(StampBureau x, String picture) {
        int number = 0;
        for (int place = 0; place < picture.length(); place++) {
            if (picture.charAt(place) == '#') {
                x.mount(number, place / 8, place % 8);
                number++;
            }
        }
    }

    private static void counts(String name, String picture, int pairs, int blocks, int cluster, int rectangle) {
        StampBureau x = alike(40);
        mountAll(x, picture);
        int stamps = x.count(4);
        Checks.due(name + ": mounted", picture.chars().filter(c -> c == '#').count(), stamps);
        Checks.due(name + ": pairs", pairs, x.count(5));
        Checks.due(name + ": blocks", blocks, x.count(6));
        Checks.due(name + ": cluster", cluster, x.count(7));
        Checks.due(name + ": rectangle", rectangle, x.count(8));
        Checks.due(name + ": worth", 10 * stamps + 5 * pairs + 50 * blocks, x.count(11));
    }

    private static void countPairsBlocksAndClusters() {
        counts("a row", "########", 7, 0, 8, 8);
        counts("two rows", "################", 7 + 7 + 8, 7, 16, 16);
        counts("a column", "#.......#.......#.......#.......#.......#.......#.......#", 7, 0, 8, 8);
        counts("diagonal", "#........#........#", 0, 0, 1, 1);
        counts("two clusters", "###.####"
            + "###..##.", 13, 3, 6, 6);
        counts("a snake", "########"
            + ".......#"
            + "########"
            + "#......."
            + "########", 25, 0, 26, 8);
        counts("a ring", "###....."
            + "#.#....."
            + "###....#", 8, 0, 8, 3);
    }

    private static void countOverTheEdges() {
        counts("the end of a row and the next one's begin", ".......##.......", 0, 0, 1, 1);
        counts("ends and begins of rows", ".......##......##......##.......", 4, 0, 3, 3);
        counts("the corners", "#......#" + "........".repeat(6) + "#......#", 0, 0, 1, 1);
        counts("the lowest corner", "........".repeat(6) + "......##......##", 4, 1, 4, 4);
    }

    private static void countRectangles() {
        counts("a cross", "..##...."
            + "..##...."
            + "######.."
            + "######.."
            + "..##....", 1 + 1 + 5 + 5 + 1 + 2 + 2 + 6 + 2, 1 + 1 + 5 + 1, 18, 12);
        counts("steps", "#......."
            + "##......"
            + "###....."
            + "####....", 1 + 2 + 3 + 1 + 2 + 3, 1 + 2, 10, 6);
        counts("nothing", "", 0, 0, 0, 0);
    }

    private static void countGroups() {
        StampBureau x = torn(2, 4);
        Checks.due("one sheet hangs together", 1, x.count(9));
        Checks.due("all of it", 8, x.count(10));
        x.mount(0, 0, 0);
        Checks.due("mounted or not", 8, x.count(10));
        x.release(0);
        x.forge(1, 1, 0);
        Checks.due("around a forged side", 1, x.count(9));
        x.forge(5, 1, 0);
        Checks.due("two halves", 2, x.count(9));
        Checks.due("the larger half", 4, x.count(10));
        x.forge(0, 1, 0);
        x.forge(0, 2, 0);
        Checks.due("one alone is a group", 3, x.count(9));
        Checks.due("the larger half", 4, x.count(10));
        x.forge(6, 0, 1023);
        x.forge(6, 1, 1023);
        Checks.due("two alone", 4, x.count(9));
        Checks.due("three are left", 3, x.count(10));
        x.forge(7, 1, 5);
        x.forge(0, 3, 1018);
        Checks.due("hung on again", 3, x.count(9));
        Checks.due("hung on again", 4, x.count(10));
    }

    private static void countWorth() {
        StampBureau x = torn(2, 2);
        x.addFlaw(0, 0, 1, 1, 0, 1);
        x.addFlaw(0, 0, 1, 2, 0, 5);
        x.addFlaw(0, 1, 1, 2, 0, 5);
        Checks.due("nothing is mounted", 0, x.count(11));
        x.mount(1, 0, 1);
        Checks.due("one", 70, x.count(11));
        x.mount(0, 0, 0);
        Checks.due("a pair", 70 + 10 + 5, x.count(11));
        x.mount(2, 1, 0);
        x.mount(3, 1, 1);
        Checks.due("a block", 70 + 10 + 10 + 40 + 4 * 5 + 50, x.count(11));
        x.addFlaw(0, 0, 0, 0, 0, 1000);
        Checks.due("a flaw told later", 230, x.count(11));
    }

    private static void reunited() {
        StampBureau x = torn(1, 1);
        x.mount(0, 0, 0);
        Checks.due("nothing fits", 0.0, x.reunited());
        StampBureau y = torn(2, 2);
        Checks.due("nothing mounted", 0.0, y.reunited());
        y.mount(0, 0, 0);
        y.mount(1, 0, 1);
        Checks.due("one of four", 0.25, y.reunited());
        y.mount(2, 1, 0);
        Checks.due("two of four", 0.5, y.reunited());
        y.mount(3, 1, 1);
        Checks.due("all", 1.0, y.reunited());
        StampBureau z = alike(3);
        z.mount(0, 0, 0);
        z.mount(1, 0, 1);
        Checks.due("a pair that fits at four sides counts once", 1.0 / 3.0, z.reunited());
        z.mount(2, 1, 0);
        Checks.due("two of three", 2.0 / 3.0, z.reunited());
    }

    private static void digest() {
        StampBureau x = torn(3, 3);
        x.addFlaw(0, 1, 1, 2, 0, 5);
        x.addPlate(4, 4);
        x.mount(4, 3, 3);
        x.mount(5, 3, 4);
        x.forge(0, 1, 0);
        long d = 547;
        for (int what = 0; what < 12; what++) {
            d = d * 31 + x.count(what);
        }
        for (int stamp = 0; stamp < 9; stamp++) {
            for (int what = 0; what < 11; what++) {
                d = d * 31 + x.stamp(stamp, what);
            }
            int origins = 0;
            while (x.origin(stamp, origins) >= 0) {
                origins++;
            }
            d = d * 31 + origins;
        }
        Checks.due("digest", d, x.digest());
        Checks.due("digest again", d, x.digest());
        x.forge(0, 1, 1);
        Checks.due("digest after a change differs", false, d == x.digest());
    }
}
