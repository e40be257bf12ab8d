/** Promises 1 to 6: a new object, plates, flaws, papers and sheets. */
public final class SheetsTest {
    private static final int HUGE = Integer.MAX_VALUE;
    private static final int LOW = Integer.MIN_VALUE;

    public static void main(String[] args) {
        aNewObject();
        addPlate();
        addFlaw();
        addFlawInOrder();
        addPaper();
        print();
        printInOrder();
        setSheet();
        setSheetInOrder();
        Checks.end();
    }

    private static void aNewObject() {
        StampBureau x = new StampBureau();
        for (int what = 0; what < 12; what++) {
            Checks.due("new: count(" + what + ")", 0, x.count(what));
        }
        for (int place = 0; place < 64; place++) {
            Checks.due("new: at " + place, -1, x.at(place / 8, place % 8));
        }
        Checks.due("new: reunited()", 0.0, x.reunited());
        long d = 547;
        for (int k = 0; k < 12; k++) {
            d *= 31;
        }
        Checks.due("new: digest()", d, x.digest());
        Checks.index("new: addFlaw", () -> x.addFlaw(0, 0, 0, 0, 0, 1));
        Checks.index("new: print", () -> x.print(0, 0, 0, 0));
        Checks.index("new: setSheet", () -> x.setSheet(0, 0, 0, 5, 5));
        Checks.index("new: tear", () -> x.tear(0, 0, 0));
        Checks.index("new: forge", () -> x.forge(0, 0, 0));
        Checks.index("new: stamp", () -> x.stamp(0, 0));
        Checks.index("new: fits", () -> x.fits(0, 0, 0) ? 1 : 0);
        Checks.index("new: fitting", () -> x.fitting(0, 0, 0));
        Checks.index("new: origin", () -> x.origin(0, 0));
        Checks.index("new: mount", () -> x.mount(0, 0, 0));
        Checks.index("new: release", () -> x.release(0));
        Checks.index("new: advise", () -> x.advise(0));
    }

    private static void addPlate() {
        StampBureau x = new StampBureau();
        for (int wrong : new int[] {0, 9, -1, HUGE, LOW}) {
            Checks.argument("addPlate(" + wrong + ", 1)", () -> x.addPlate(wrong, 1));
            Checks.argument("addPlate(8, " + wrong + ")", () -> x.addPlate(8, wrong));
        }
        Checks.due("no plate yet", 0, x.count(0));
        int[][] sizes = {{1, 1}, {8, 8}, {1, 8}, {8, 1}, {3, 5}, {2, 2}};
        for (int k = 0; k < 6; k++) {
            Checks.due("addPlate " + k, k, x.addPlate(sizes[k][0], sizes[k][1]));
            Checks.due("plates", k + 1, x.count(0));
        }
        Checks.state("a seventh plate", () -> x.addPlate(1, 1));
        Checks.argument("a seventh wrong plate", () -> x.addPlate(0, 1));
        Checks.due("plates", 6, x.count(0));
        x.addPaper(1, 1);
        for (int k = 0; k < 6; k++) {
            x.print(k, 0, 0, 0);
            Checks.due("places of plate " + k, sizes[k][0] * sizes[k][1], x.setSheet(k, 0, 0, 10, 10));
            int plate = k;
            Checks.due("the last place of plate " + k, 1, x.addFlaw(plate, sizes[k][0] - 1, sizes[k][1] - 1, 0, 0, 1));
            Checks.index("a row more", () -> x.addFlaw(plate, sizes[plate][0], 0, 0, 0, 1));
            Checks.index("a column more", () -> x.addFlaw(plate, 0, sizes[plate][1], 0, 0, 1));
        }
    }

    private static void addFlaw() {
        StampBureau x = new StampBureau();
        x.addPlate(2, 3);
        x.addPlate(3, 2);
        x.addPaper(1, 1);
        for (int run = 0; run < 6; run++) {
            x.print(0, 0, run, 0);
        }
        Checks.due("the first flaw", 1, x.addFlaw(0, 1, 2, 4, 1, 3));
        Checks.due("the second one", 2, x.addFlaw(0, 1, 2, 0, 2, HUGE));
        Checks.due("the same kind again", 3, x.addFlaw(0, 1, 2, 4, 2, 5));
        Checks.due("another plate's", 1, x.addFlaw(1, 2, 1, 4, 0, 1));
        int[] want = {0, 16, 17, 17, 17, 1};
        for (int run = 0; run < 6; run++) {
            x.tear(run, 1, 2);
            Checks.due("flaws in the run " + run, want[run], x.stamp(run, 8));
        }
        x.tear(2, 1, 1);
        Checks.due("flaws of another place", 0, x.stamp(6, 8));
        Checks.due("a flaw told afterwards", 4, x.addFlaw(0, 1, 2, 3, 0, 2));
        Checks.due("it shows on the torn stamp", 8, x.stamp(0, 8));
        Checks.due("it shows on the torn stamp", 24, x.stamp(1, 8));
        Checks.due("but not in a later run", 17, x.stamp(2, 8));
        for (int k = 5; k <= 10; k++) {
            Checks.due("flaw " + k, k, x.addFlaw(0, 0, 0, 1, 0, 1));
        }
        Checks.state("flaw 11", () -> x.addFlaw(0, 0, 1, 2, 0, 1000));
        Checks.due("another plate still takes one", 2, x.addFlaw(1, 0, 0, 0, HUGE - 1, HUGE));
        x.tear(0, 0, 1);
        Checks.due("flaw 11 is not there", 0, x.stamp(7, 8));
    }

    private static void addFlawInOrder() {
        StampBureau x = new StampBureau();
        x.addPlate(2, 3);
        for (int wrong : new int[] {-1, 1, 6, HUGE, LOW}) {
            Checks.index("addFlaw: plate " + wrong, () -> x.addFlaw(wrong, 0, 0, 9, 0, 1));
        }
        for (int wrong : new int[] {-1, 2, 3, HUGE, LOW}) {
            Checks.index("addFlaw: row " + wrong, () -> x.addFlaw(0, wrong, 0, 0, -1, 1));
        }
        for (int wrong : new int[] {-1, 3, 8, HUGE, LOW}) {
            Checks.index("addFlaw: column " + wrong, () -> x.addFlaw(0, 0, wrong, 0, 1, 1));
        }
        for (int wrong : new int[] {-1, 5, HUGE, LOW}) {
            Checks.argument("addFlaw: kind " + wrong, () -> x.addFlaw(0, 0, 0, wrong, 0, 1));
        }
        Checks.argument("addFlaw: from -1", () -> x.addFlaw(0, 0, 0, 0, -1, 1));
        Checks.argument("addFlaw: from the least", () -> x.addFlaw(0, 0, 0, 0, LOW, HUGE));
        Checks.argument("addFlaw: to as from", () -> x.addFlaw(0, 0, 0, 0, 3, 3));
        Checks.argument("addFlaw: to before from", () -> x.addFlaw(0, 0, 0, 0, 3, 2));
        Checks.argument("addFlaw: to the least", () -> x.addFlaw(0, 0, 0, 0, 0, LOW));
        for (int k = 1; k <= 10; k++) {
            Checks.due("none of these counted", k, x.addFlaw(0, 0, 0, k % 5, k - 1, k));
        }
        Checks.index("full: no such place", () -> x.addFlaw(0, 2, 0, 0, 0, 1));
        Checks.argument("full: no such kind", () -> x.addFlaw(0, 0, 0, 5, 0, 1));
        Checks.state("full", () -> x.addFlaw(0, 0, 0, 0, 0, 1));
    }

    private static void addPaper() {
        StampBureau x = new StampBureau();
        for (int wrong : new int[] {0, 5, -1, HUGE, LOW}) {
            Checks.argument("addPaper(" + wrong + ", 1)", () -> x.addPaper(wrong, 1));
            Checks.argument("addPaper(4, " + wrong + ")", () -> x.addPaper(4, wrong));
        }
        int[][] sizes = {{1, 4}, {4, 1}, {3, 2}, {4, 4}};
        for (int k = 0; k < 4; k++) {
            Checks.due("addPaper " + k, k, x.addPaper(sizes[k][0], sizes[k][1]));
            Checks.due("papers", k + 1, x.count(1));
        }
        Checks.state("a fifth paper", () -> x.addPaper(1, 1));
        Checks.argument("a fifth wrong paper", () -> x.addPaper(1, 0));
        Checks.due("papers", 4, x.count(1));
        x.addPlate(8, 8);
        for (int k = 0; k < 4; k++) {
            x.print(0, k, 0, 0);
            for (int place = 0; place < 9; place++) {
                int row = place * 7 / 8;
                int column = (place * 5 + k) % 8;
                int number = x.tear(k, row, column);
                int mark = row % sizes[k][1] * sizes[k][0] + column % sizes[k][0];
                Checks.due("mark at " + row + ", " + column + " on paper " + k, mark, x.stamp(number, 7));
                Checks.due("paper", k, x.stamp(number, 6));
            }
        }
    }

    private static void print() {
        StampBureau x = new StampBureau();
        x.addPlate(2, 3);
        x.addPlate(1, 2);
        x.addPaper(2, 2);
        x.addPaper(4, 3);
        Checks.due("print", 0, x.print(1, 1, 999, 9999));
        Checks.due("print", 1, x.print(0, 0, 0, 0));
        Checks.due("sheets", 2, x.count(2));
        x.addFlaw(1, 0, 1, 2, 999, 1000);
        x.tear(0, 0, 1);
        Checks.due("the plate and the run count", 4, x.stamp(0, 8));
        Checks.due("the gauge across", 10, x.stamp(0, 4));
        Checks.due("the gauge down", 10, x.stamp(0, 5));
        Checks.due("the paper", 1, x.stamp(0, 6));
        Checks.due("the mark without a shift", 1, x.stamp(0, 7));
        Checks.due("the seed counts", 1023 - teeth(9999 * 31 + 1, 10), x.stamp(0, 3));
        for (int k = 2; k < 10; k++) {
            Checks.due("print", k, x.print(0, 0, k, k));
        }
        Checks.state("an eleventh sheet", () -> x.print(0, 0, 0, 0));
        Checks.argument("an eleventh wrong sheet", () -> x.print(0, 0, -1, 0));
        Checks.index("an eleventh sheet of no plate", () -> x.print(2, 0, -1, 0));
        Checks.due("sheets", 10, x.count(2));
    }

    private static int teeth(int seedAndPlace, int gauge) {
        return (seedAndPlace * 40503 >>> 5) % (1 << gauge);
    }

    private static void printInOrder() {
        StampBureau x = new StampBureau();
        x.addPlate(2, 3);
        x.addPaper(2, 2);
        x.addPaper(2, 2);
        for (int wrong : new int[] {-1, 1, 6, HUGE, LOW}) {
            Checks.index("print: plate " + wrong, () -> x.print(wrong, 0, -1, 0));
        }
        for (int wrong : new int[] {-1, 2, 4, HUGE, LOW}) {
            Checks.index("print: paper " + wrong, () -> x.print(0, wrong, 0, -1));
        }
        for (int wrong : new int[] {-1, 1000, HUGE, LOW}) {
            Checks.argument("print: run " + wrong, () -> x.print(0, 0, wrong, 0));
        }
        for (int wrong : new int[] {-1, 10000, HUGE, LOW}) {
            Checks.argument("print: seed " + wrong, () -> x.print(0, 0, 0, wrong));
        }
        Checks.due("none was printed", 0, x.count(2));
    }

    private static void setSheet() {
        StampBureau x = new StampBureau();
        x.addPlate(3, 4);
        x.addPaper(4, 4);
        x.print(0, 0, 0, 5);
        x.print(0, 0, 0, 5);
        Checks.due("setSheet", 12, x.setSheet(1, 3, 2, 16, 5));
        Checks.due("setSheet again", 12, x.setSheet(1, 2, 3, 5, 16));
        x.tear(0, 1, 1);
        x.tear(1, 1, 1);
        Checks.due("the other sheet stays", 10, x.stamp(0, 4));
        Checks.due("the other sheet stays", 10, x.stamp(0, 5));
        Checks.due("the other sheet stays", 5, x.stamp(0, 7));
        Checks.due("the gauge across", 5, x.stamp(1, 4));
        Checks.due("the gauge down", 16, x.stamp(1, 5));
        Checks.due("the shifts of rows and columns", 3 * 4, x.stamp(1, 7));
        long before = x.digest();
        Checks.state("setSheet when torn", () -> x.setSheet(1, 0, 0, 10, 10));
        Checks.state("setSheet when torn", () -> x.setSheet(0, 0, 0, 10, 10));
        Checks.due("nothing changed", before, x.digest());
        x.tear(1, 0, 0);
        Checks.due("nothing changed", 5, x.stamp(2, 4));
    }

    private static void setSheetInOrder() {
        StampBureau x = new StampBureau();
        x.addPlate(3, 4);
        x.addPaper(4, 4);
        x.print(0, 0, 0, 5);
        for (int wrong : new int[] {-1, 1, 10, HUGE, LOW}) {
            Checks.index("setSheet: sheet " + wrong, () -> x.setSheet(wrong, -1, 0, 10, 10));
        }
        for (int wrong : new int[] {-1, 4, HUGE, LOW}) {
            Checks.argument("setSheet: rows " + wrong, () -> x.setSheet(0, wrong, 3, 16, 16));
            Checks.argument("setSheet: columns " + wrong, () -> x.setSheet(0, 3, wrong, 16, 16));
        }
        for (int wrong : new int[] {-1, 4, 17, HUGE, LOW}) {
            Checks.argument("setSheet: across " + wrong, () -> x.setSheet(0, 3, 3, wrong, 16));
            Checks.argument("setSheet: down " + wrong, () -> x.setSheet(0, 3, 3, 16, wrong));
        }
        x.tear(0, 0, 0);
        Checks.due("nothing was changed", 10, x.stamp(0, 4));
        Checks.due("nothing was changed", 10, x.stamp(0, 5));
        Checks.due("nothing was changed", 0, x.stamp(0, 7));
        Checks.argument("wrong and torn", () -> x.setSheet(0, 4, 0, 10, 10));
        Checks.index("no such sheet", () -> x.setSheet(1, 4, 0, 10, 10));
        Checks.state("torn", () -> x.setSheet(0, 0, 0, 10, 10));
    }
}
