/** Promises 7 to 12: stamps, their teeth, what fits, and where they can be from. */
public final class StampsTest {
    private static final int HUGE = Integer.MAX_VALUE;
    private static final int LOW = Integer.MIN_VALUE;

    public static void main(String[] args) {
        tear();
        tearAtTheLimit();
        teeth();
        teethThatAreAllShortOrLong();
        forge();
        stamp();
        fits();
        fitsByTheMark();
        fitsNotItself();
        fitting();
        originByFlaws();
        originInTheFirstAndTheLastRun();
        originByEdges();
        Checks.end();
    }

    private static StampBureau bureau(int rows, int columns, int wide, int high) {
        StampBureau x = new StampBureau();
        x.addPlate(rows, columns);
        x.addPaper(wide, high);
        return x;
    }

    private static void tear() {
        StampBureau x = bureau(2, 3, 1, 1);
        x.print(0, 0, 0, 1);
        for (int wrong : new int[] {-1, 1, 10, HUGE, LOW}) {
            Checks.index("tear: sheet " + wrong, () -> x.tear(wrong, 0, 0));
        }
        for (int wrong : new int[] {-1, 2, 8, HUGE, LOW}) {
            Checks.index("tear: row " + wrong, () -> x.tear(0, wrong, 0));
        }
        for (int wrong : new int[] {-1, 3, 8, HUGE, LOW}) {
            Checks.index("tear: column " + wrong, () -> x.tear(0, 0, wrong));
        }
        Checks.due("no stamp yet", 0, x.count(3));
        Checks.due("tear", 0, x.tear(0, 1, 2));
        Checks.due("tear", 1, x.tear(0, 0, 0));
        Checks.state("torn before", () -> x.tear(0, 1, 2));
        Checks.state("torn before", () -> x.tear(0, 0, 0));
        Checks.due("stamps", 2, x.count(3));
        x.print(0, 0, 0, 1);
        Checks.due("the place of another sheet", 2, x.tear(1, 1, 2));
        Checks.due("not mounted", -1, x.stamp(2, 10));
    }

    private static void tearAtTheLimit() {
        StampBureau x = bureau(8, 8, 1, 1);
        x.print(0, 0, 0, 1);
        x.print(0, 0, 0, 2);
        for (int k = 0; k < 40; k++) {
            Checks.due("stamp " + k, k, x.tear(0, 7 - k / 8, 7 - k % 8));
        }
        Checks.state("stamp 40", () -> x.tear(0, 0, 0));
        Checks.state("stamp 40, torn before", () -> x.tear(0, 7, 7));
        Checks.index("stamp 40 of no place", () -> x.tear(0, 8, 0));
        Checks.due("stamps", 40, x.count(3));
        Checks.due("setSheet: the second sheet is still whole", 64, x.setSheet(1, 0, 0, 5, 5));
        Checks.state("stamp 40 of the second sheet", () -> x.tear(1, 0, 0));
        Checks.due("setSheet: nothing was torn", 64, x.setSheet(1, 0, 0, 6, 6));
    }

    private static void teeth() {
        StampBureau x = bureau(3, 4, 2, 2);
        x.print(0, 0, 10, 77);
        x.setSheet(0, 1, 0, 8, 9);
        for (int place = 0; place < 12; place++) {
            x.tear(0, place / 4, place % 4);
        }
        for (int place = 0; place < 12; place++) {
            int below = cut(77 * 31 + 2 * place, 8);
            int right = cut(77 * 31 + 2 * place + 1, 9);
            Checks.due("teeth below " + place, place < 8 ? below : 0, x.stamp(place, 2));
            Checks.due("teeth right of " + place, place % 4 < 3 ? right : 0, x.stamp(place, 1));
            if (place < 8) {
                Checks.due("teeth above " + (place + 4), 255 - below, x.stamp(place + 4, 0));
            } else {
                Checks.due("the edge above", 0, x.stamp(place - 8, 0));
            }
            if (place % 4 < 3) {
                Checks.due("teeth left of " + (place + 1), 511 - right, x.stamp(place + 1, 3));
            } else {
                Checks.due("the edge to the left", 0, x.stamp(place - 3, 3));
            }
        }
        Checks.due("by hand: (77 * 31 + 11) * 40503 / 32 by the remainder of 512", 57, x.stamp(5, 1));
    }

    /** The teeth by the words of the document, in numbers of 64 bits. */
    private static int cut(long seedAndPlace, int gauge) {
        long all = (1L << gauge) - 1;
        long x = (seedAndPlace * 40503L) & 0xFFFFFFFFL;
        long teeth = (x / 32) & all;
        return teeth == 0 || teeth == all ? 1 : (int) teeth;
    }

    private static void teethThatAreAllShortOrLong() {
        // At the gauge 16, seed 0 gives 0 below the place 0, 15 gives 0 to its right, 4508 gives all below.
        int[] seeds = {0, 15, 4508};
        int[] sides = {2, 1, 2};
        StampBureau x = bureau(2, 2, 1, 1);
        for (int k = 0; k < 3; k++) {
            x.print(0, 0, 0, seeds[k]);
            x.setSheet(k, 0, 0, 16, 16);
            int first = x.tear(k, 0, 0);
            int second = sides[k] == 2 ? x.tear(k, 1, 0) : x.tear(k, 0, 1);
            Checks.due("all short or all long: 1, seed " + seeds[k], 1, x.stamp(first, sides[k]));
            Checks.due("the other one: all but this, seed " + seeds[k], 65534, x.stamp(second, (sides[k] + 2) % 4));
            Checks.due("they fit", true, x.fits(first, sides[k], second));
        }
    }

    private static void forge() {
        StampBureau x = bureau(2, 2, 1, 1);
        x.print(0, 0, 0, 3);
        x.setSheet(0, 0, 0, 5, 16);
        x.tear(0, 0, 0);
        int below = x.stamp(0, 2);
        for (int wrong : new int[] {-1, 1, 40, HUGE, LOW}) {
            Checks.index("forge: stamp " + wrong, () -> x.forge(wrong, 0, -1));
        }
        for (int wrong : new int[] {-1, 4, HUGE, LOW}) {
            Checks.index("forge: side " + wrong, () -> x.forge(0, wrong, -1));
        }
        for (int side = 0; side < 4; side++) {
            int at = side;
            int most = side % 2 == 0 ? 31 : 65535;
            for (int wrong : new int[] {-1, most + 1, HUGE, LOW}) {
                Checks.argument("forge: side " + side + " " + wrong, () -> x.forge(0, at, wrong));
            }
        }
        Checks.due("nothing was forged", below, x.stamp(0, 2));
        Checks.due("forge", below, x.forge(0, 2, 31));
        Checks.due("forge again", 31, x.forge(0, 2, 0));
        Checks.due("forge an edge", 0, x.forge(0, 3, 65535));
        Checks.due("the teeth", 0, x.stamp(0, 0));
        Checks.due("the teeth", 0, x.stamp(0, 2));
        Checks.due("the teeth", 65535, x.stamp(0, 3));
        x.mount(0, 4, 4);
        Checks.argument("forge: wrong and mounted", () -> x.forge(0, 0, 32));
        Checks.index("forge: no side and mounted", () -> x.forge(0, 4, 0));
        Checks.state("forge: mounted", () -> x.forge(0, 3, 1));
        Checks.due("nothing was forged", 65535, x.stamp(0, 3));
        x.release(0);
        Checks.due("forge: released", 65535, x.forge(0, 3, 1));
    }

    private static void stamp() {
        StampBureau x = bureau(3, 3, 3, 2);
        x.addPaper(4, 4);
        x.addFlaw(0, 1, 1, 0, 0, 10);
        x.addFlaw(0, 1, 1, 3, 5, 10);
        x.addFlaw(0, 1, 1, 3, 6, 8);
        x.addFlaw(0, 1, 2, 1, 7, 8);
        x.print(0, 1, 7, 50);
        x.setSheet(0, 2, 3, 12, 7);
        x.tear(0, 1, 1);
        x.tear(0, 0, 0);
        int[] want = {4095 - cut(50 * 31 + 2, 12), cut(50 * 31 + 9, 7), cut(50 * 31 + 8, 12),
            127 - cut(50 * 31 + 7, 7), 12, 7, 1, 3 * 4, 9, 70, -1};
        for (int what = 0; what < 11; what++) {
            Checks.due("stamp(0, " + what + ")", want[what], x.stamp(0, what));
        }
        Checks.due("no flaws", 0, x.stamp(1, 8));
        Checks.due("the price without flaws", 10, x.stamp(1, 9));
        x.mount(0, 7, 6);
        Checks.due("the place", 62, x.stamp(0, 10));
        x.addFlaw(0, 1, 1, 4, 0, 1000);
        Checks.due("a flaw told later", 25, x.stamp(0, 8));
        Checks.due("a flaw told later", 100, x.stamp(0, 9));
        for (int wrong : new int[] {-1, 11, HUGE, LOW}) {
            Checks.index("stamp(0, " + wrong + ")", () -> x.stamp(0, wrong));
        }
        for (int wrong : new int[] {-1, 2, 40, HUGE, LOW}) {
            Checks.index("stamp(" + wrong + ", 0)", () -> x.stamp(wrong, 0));
        }
    }

    private static void fits() {
        StampBureau x = bureau(2, 2, 1, 1);
        x.addPaper(1, 1);
        int[][] sheets = {{0, 10, 10}, {0, 10, 10}, {1, 10, 10}, {0, 9, 10}, {0, 10, 9}};
        for (int k = 0; k < 5; k++) {
            x.print(0, sheets[k][0], k, 60);
            x.setSheet(k, 0, 0, sheets[k][1], sheets[k][2]);
            x.tear(k, 0, 0);
            x.tear(k, 0, 1);
        }
        Checks.due("neighbours fit", true, x.fits(0, 1, 1));
        Checks.due("so does the other one", true, x.fits(1, 3, 0));
        Checks.due("not at another side", false, x.fits(0, 3, 1) || x.fits(0, 0, 1) || x.fits(0, 2, 1));
        Checks.due("of another sheet", true, x.fits(0, 1, 3));
        Checks.due("of another paper", false, x.fits(0, 1, 5));
        Checks.due("of another gauge across", false, x.fits(0, 1, 7));
        Checks.due("of another gauge down", false, x.fits(0, 1, 9));
        Checks.due("straight sides do not fit", false, x.fits(0, 3, 1));
        x.forge(0, 1, 1023);
        x.forge(1, 3, 0);
        Checks.due("all teeth do not fit none", false, x.fits(0, 1, 1));
        Checks.due("none do not fit all", false, x.fits(1, 3, 0));
        x.forge(0, 1, 1);
        x.forge(1, 3, 1022);
        Checks.due("forged ones fit", true, x.fits(0, 1, 1) && x.fits(1, 3, 0));
        x.forge(1, 3, 1020);
        Checks.due("just all that are not", false, x.fits(0, 1, 1) || x.fits(1, 3, 0));
        x.forge(1, 0, 5);
        x.forge(0, 2, 1018);
        Checks.due("forged ones fit above", true, x.fits(1, 0, 0) && x.fits(0, 2, 1));
        for (int wrong : new int[] {-1, 10, 40, HUGE, LOW}) {
            Checks.index("fits(" + wrong + ", 0, 0)", () -> x.fits(wrong, 0, 0) ? 1 : 0);
            Checks.index("fits(0, 0, " + wrong + ")", () -> x.fits(0, 0, wrong) ? 1 : 0);
            Checks.index("fits of the same none", () -> x.fits(wrong, 0, wrong) ? 1 : 0);
        }
        for (int wrong : new int[] {-1, 4, HUGE, LOW}) {
            Checks.index("fits(0, " + wrong + ", 0)", () -> x.fits(0, wrong, 0) ? 1 : 0);
        }
        Checks.argument("fits of the same", () -> x.fits(0, 0, 0) ? 1 : 0);
        Checks.argument("fits of the same", () -> x.fits(9, 3, 9) ? 1 : 0);
    }

    private static void fitsByTheMark() {
        for (int wide = 1; wide <= 4; wide++) {
            for (int high = 1; high <= 4; high++) {
                for (int a = 0; a < 16; a++) {
                    fitsByTheMark(wide, high, a);
                }
            }
        }
    }

    private static void fitsByTheMark(int wide, int high, int a) {
        StampBureau x = bureau(4, 4, wide, high);
        x.print(0, 0, 0, 0);
        for (int place = 0; place < 16; place++) {
            x.tear(0, place / 4, place % 4);
            for (int side = 0; side < 4; side++) {
                x.forge(place, side, side < 2 ? 3 : 1020);
            }
        }
        int[] rowStep = {-1, 0, 1, 0};
        int[] columnStep = {0, 1, 0, -1};
        for (int b = 0; b < 16; b++) {
            for (int side = 0; side < 4 && a != b; side++) {
                boolean rows = Math.floorMod(a / 4 + rowStep[side] - b / 4, high) == 0;
                boolean columns = Math.floorMod(a % 4 + columnStep[side] - b % 4, wide) == 0;
                Checks.due(a + " " + side + " " + b + " on " + wide + " by " + high,
                    rows && columns, x.fits(a, side, b));
            }
        }
    }

    private static void fitsNotItself() {
        StampBureau x = bureau(1, 1, 1, 1);
        x.print(0, 0, 0, 0);
        x.tear(0, 0, 0);
        x.forge(0, 0, 3);
        x.forge(0, 2, 1020);
        Checks.due("it does not fit itself", -1, x.fitting(0, 0, 0));
        Checks.due("no pair", 0.0, x.reunited());
        Checks.due("one group", 1, x.count(9));
    }

    private static void fitting() {
        StampBureau x = bureau(1, 2, 1, 1);
        for (int k = 0; k < 4; k++) {
            x.print(0, 0, k, 60);
            x.tear(k, 0, 1);
            x.tear(k, 0, 0);
        }
        int[] want = {0, 2, 4, 6, -1, -1};
        for (int index = 0; index < want.length; index++) {
            Checks.due("fitting(3, 1, " + index + ")", want[index], x.fitting(3, 1, index));
            Checks.due("fitting(2, 3, " + index + ")", want[index] < 0 ? -1 : want[index] + 1, x.fitting(2, 3, index));
        }
        Checks.due("fitting(3, 1, the greatest)", -1, x.fitting(3, 1, HUGE));
        Checks.due("nothing at an edge", -1, x.fitting(3, 0, 0));
        x.mount(0, 0, 0);
        Checks.due("mounted ones fit, too", 0, x.fitting(3, 1, 0));
        x.forge(2, 3, 0);
        Checks.due("a forged one does not", 4, x.fitting(3, 1, 1));
        for (int wrong : new int[] {-1, 8, 40, HUGE, LOW}) {
            Checks.index("fitting: stamp " + wrong, () -> x.fitting(wrong, 0, 0));
        }
        for (int wrong : new int[] {-1, 4, HUGE, LOW}) {
            Checks.index("fitting: side " + wrong, () -> x.fitting(0, wrong, 0));
        }
        Checks.index("fitting: index -1", () -> x.fitting(0, 0, -1));
        Checks.index("fitting: index the least", () -> x.fitting(0, 0, LOW));
    }

    private static void originByFlaws() {
        StampBureau x = bureau(1, 1, 1, 1);
        x.addPlate(1, 1);
        x.addPlate(1, 1);
        x.addFlaw(0, 0, 0, 0, 0, 1000);
        x.addFlaw(0, 0, 0, 1, 999, 1000);
        x.addFlaw(1, 0, 0, 1, 5, 7);
        x.addFlaw(1, 0, 0, 0, 6, 999);
        x.addFlaw(2, 0, 0, 0, 1000, 2000);
        x.addFlaw(2, 0, 0, 2, 3, 1000);
        int[] plates = {0, 0, 1, 1, 1, 1, 2, 2};
        int[] runs = {0, 999, 0, 5, 6, 999, 0, 999};
        int[][] want = {{0, 64}, {0, 64}, {64, 128}, {64}, {0, 64}, {64, 128}, {64, 128}, {128}};
        for (int k = 0; k < runs.length; k++) {
            x.print(plates[k], 0, runs[k], 0);
            x.tear(k, 0, 0);
            for (int index = 0; index < 3; index++) {
                Checks.due("origin(" + k + ", " + index + ")", index < want[k].length ? want[k][index] : -1,
                    x.origin(k, index));
            }
        }
        Checks.due("origin(0, the greatest)", -1, x.origin(0, HUGE));
        x.addFlaw(0, 0, 0, 4, 0, 1000);
        Checks.due("a flaw told later", 0, x.origin(0, 0));
        Checks.due("a flaw told later", -1, x.origin(0, 1));
        Checks.due("a flaw told later", 64, x.origin(4, 0));
        for (int wrong : new int[] {-1, 8, 40, HUGE, LOW}) {
            Checks.index("origin: stamp " + wrong, () -> x.origin(wrong, 0));
        }
        Checks.index("origin: index -1", () -> x.origin(0, -1));
        Checks.index("origin: index the least", () -> x.origin(0, LOW));
    }

    private static void originInTheFirstAndTheLastRun() {
        StampBureau x = bureau(1, 1, 1, 1);
        x.addPlate(1, 1);
        x.addPlate(1, 1);
        x.print(0, 0, 0, 0);
        x.tear(0, 0, 0);
        x.addFlaw(1, 0, 0, 0, 1, HUGE);
        Checks.due("without flaws in the run 0 alone", 64, x.origin(0, 1));
        x.addFlaw(2, 0, 0, 0, 0, 999);
        Checks.due("without flaws in the run 999 alone", 128, x.origin(0, 2));
        x.addFlaw(2, 0, 0, 1, 999, 1000);
        Checks.due("without flaws from the run 1000 on", -1, x.origin(0, 2));
        x.addFlaw(0, 0, 0, 1, 0, 1);
        Checks.due("the flaws of the run 999 alone", 128, x.origin(0, 1));
    }

    private static void originByEdges() {
        StampBureau x = bureau(3, 4, 1, 1);
        x.addPlate(8, 8);
        x.addPlate(1, 3);
        x.print(0, 0, 0, 7);
        x.tear(0, 1, 1);
        int[] inside = {9, 10};
        for (int index = 0; index < 2; index++) {
            Checks.due("origin inside", inside[index], x.origin(0, index));
        }
        for (int index = 0; index < 36; index++) {
            Checks.due("origin inside the second plate", 64 + (1 + index / 6) * 8 + 1 + index % 6, x.origin(0, index + 2));
        }
        Checks.due("no more", -1, x.origin(0, 38));
        x.forge(0, 0, 0);
        Checks.due("forged straight above", 1, x.origin(0, 0));
        Checks.due("forged straight above", 65, x.origin(0, 2));
        Checks.due("forged straight above", 70, x.origin(0, 7));
        Checks.due("no more", -1, x.origin(0, 8));
        x.forge(0, 2, 0);
        Checks.due("straight above and below", 128 + 1, x.origin(0, 0));
        Checks.due("no more", -1, x.origin(0, 1));
        x.forge(0, 3, 0);
        Checks.due("straight to the left, too", 128, x.origin(0, 0));
        x.forge(0, 1, 0);
        Checks.due("straight everywhere", -1, x.origin(0, 0));
        x.tear(0, 2, 3);
        Checks.due("a corner", 19, x.origin(1, 0));
        Checks.due("a corner", 64 + 63, x.origin(1, 1));
        Checks.due("no more", -1, x.origin(1, 2));
        x.forge(1, 1, 1);
        Checks.due("forged teeth at the edge", 17, x.origin(1, 0));
        x.forge(1, 1, 1023);
        Checks.due("all teeth are not straight", 17, x.origin(1, 0));
    }
}
