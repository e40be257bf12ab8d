import java.math.BigInteger;

/** The boundary cases of the promises 1 to 6, one by one; what is refused must change nothing. */
public final class SheetBoundariesTest {
    private static final int HUGE = Integer.MAX_VALUE;
    private static final int LOW = Integer.MIN_VALUE;

    public static void main(String[] args) {
        aNewObjectIsEmpty();
        aNewObjectKnowsNoNumber();
        aNewObjectIsApartFromOthers();
        addPlateOfAWrongSize();
        addPlateOfTheLeastAndTheLargestSize();
        addPlateWhenFull();
        addFlawNowhere();
        addFlawOfWrongNumbers();
        addFlawOfTheLeastAndTheGreatestNumbers();
        addFlawWhenFull();
        addFlawInOrder();
        addPaperOfAWrongSize();
        addPaperOfTheLeastAndTheLargestSize();
        addPaperWhenFull();
        printFromNothing();
        printOfWrongNumbers();
        printOfTheLeastAndTheGreatestNumbers();
        printWithTheFirstSetting();
        printWhenFull();
        printInOrder();
        setSheetOfNoSheet();
        setSheetOfWrongNumbers();
        setSheetOfTheLeastAndTheGreatestNumbers();
        setSheetReturnsItsStamps();
        setSheetWhenTorn();
        setSheetInOrder();
        Checks.end();
    }

    private static void aNewObjectIsEmpty() {
        Script s = new Script("Promise 1, a new object: empty");
        BigInteger d = BigInteger.valueOf(547);
        for (int what = 0; what < 12; what++) {
            s.asks("count " + what, 0);
            d = d.multiply(BigInteger.valueOf(31));
        }
        for (int place = 0; place < 64; place++) {
            s.due("at " + place / 8 + " " + place % 8, -1);
        }
        s.asks("reunited", 0.0);
        s.asks("digest", d.longValue());
    }

    private static void aNewObjectKnowsNoNumber() {
        Script s = new Script("Promise 1, a new object: no plate, paper, sheet or stamp 0");
        s.index("addFlaw 0 0 0 0 0 1").index("print 0 0 0 0").index("setSheet 0 0 0 10 10").index("tear 0 0 0");
        s.index("forge 0 0 0").index("stamp 0 0").index("fits 0 0 1").index("fits 0 0 0").index("fitting 0 0 0");
        s.index("origin 0 0").index("mount 0 0 0").index("release 0").index("advise 0");
        s.due("addPlate 1 1", 0).index("print 0 0 0 0").index("setSheet 0 0 0 10 10");
        s.due("addPaper 1 1", 0).index("setSheet 0 0 0 10 10").index("tear 0 0 0");
        s.due("print 0 0 0 0", 0).index("stamp 0 0").index("mount 0 0 0");
        s.due("tear 0 0 0", 0).state("release 0");
    }

    private static void aNewObjectIsApartFromOthers() {
        new Script("Promise 1, an object before").make("addPlate 2 2", "addPaper 2 2", "print 0 0 1 1",
            "tear 0 0 0", "mount 0 0 0", "addFlaw 0 0 0 0 0 1000");
        Script s = new Script("Promise 1, a new object beside another one: empty");
        for (int what = 0; what < 12; what++) {
            s.asks("count " + what, 0);
        }
        s.due("at 0 0", -1);
    }

    private static void addPlateOfAWrongSize() {
        Script s = new Script("Promise 2, addPlate: rows or columns is not 1 to 8");
        s.argument("addPlate ? 1", Script.outside(1, 8)).argument("addPlate ? 8", Script.outside(1, 8));
        s.argument("addPlate 1 ?", Script.outside(1, 8)).argument("addPlate 8 ?", Script.outside(1, 8));
        s.argument("addPlate 0 0").argument("addPlate 9 9");
        s.due("addPlate 3 3", 0);
        s.argument("addPlate 9 1").argument("addPlate 1 0");
        s.due("addPlate 3 3", 1).due("count 0", 2);
    }

    private static void addPlateOfTheLeastAndTheLargestSize() {
        Script s = new Script("Promise 2, addPlate: 1 and 8 rows and columns");
        s.due("addPlate 1 1", 0).due("addPlate 8 8", 1).due("addPlate 1 8", 2).due("addPlate 8 1", 3).make("addPaper 1 1");
        s.due("addFlaw 0 0 0 0 0 1", 1).due("addFlaw 1 7 7 0 0 1", 1);
        s.due("addFlaw 2 0 7 0 0 1", 1).due("addFlaw 3 7 0 0 0 1", 1);
        s.index("addFlaw 0 1 0 0 0 1").index("addFlaw 0 0 1 0 0 1").index("addFlaw 1 8 7 0 0 1");
        s.index("addFlaw 1 7 8 0 0 1").index("addFlaw 2 1 0 0 0 1").index("addFlaw 3 0 1 0 0 1");
        s.make("print 0 0 0 0", "print 1 0 0 0", "print 2 0 0 0", "print 3 0 0 0");
        s.due("tear 0 0 0", 0).due("tear 1 7 7", 1).due("tear 2 0 7", 2).due("tear 3 7 0", 3);
        for (int stamp = 0; stamp < 4; stamp++) {
            s.due("stamp " + stamp + " 8", 1);
        }
        s.make("tear 1 0 0", "tear 1 0 7", "tear 1 7 0");
        for (int stamp = 4; stamp < 7; stamp++) {
            s.due("stamp " + stamp + " 8", 0);
        }
    }

    private static void addPlateWhenFull() {
        Script s = new Script("Promise 2, addPlate: there are 6");
        for (int plate = 0; plate < 6; plate++) {
            s.due("addPlate 1 " + (plate + 1), plate).due("count 0", plate + 1);
        }
        s.state("addPlate 1 1").state("addPlate 8 8");
        s.argument("addPlate 0 1").argument("addPlate 1 9").argument("addPlate " + LOW + " " + HUGE);
        s.state("addPlate 1 1").due("count 0", 6);
        s.make("addFlaw 5 0 5 0 0 1").index("addFlaw 5 0 6 0 0 1").index("addFlaw 6 0 0 0 0 1");
    }

    private static Script twoPlates(String promise) {
        return new Script(promise).make("addPlate 2 3", "addPlate 3 2", "addPaper 1 1", "print 0 0 0 0", "print 1 0 0 0");
    }

    private static void addFlawNowhere() {
        Script s = twoPlates("Promise 3, addFlaw: no such plate, or no such place on it");
        s.index("addFlaw ? 0 0 0 0 1", Script.outside(0, 1)).index("addFlaw ? 0 0 0 0 1", new int[] {5, 6});
        s.index("addFlaw 0 ? 0 0 0 1", Script.outside(0, 1)).index("addFlaw 0 0 ? 0 0 1", Script.outside(0, 2));
        s.index("addFlaw 1 ? 0 0 0 1", Script.outside(0, 2)).index("addFlaw 1 0 ? 0 0 1", Script.outside(0, 1));
        s.due("addFlaw 0 1 2 0 0 1", 1).due("addFlaw 1 2 1 0 0 1", 1);
    }

    private static void addFlawOfWrongNumbers() {
        Script s = twoPlates("Promise 3, addFlaw: kind is not 0 to 4, from is less than 0, or to is not greater than from");
        s.argument("addFlaw 0 0 0 ? 0 1", Script.outside(0, 4));
        s.argument("addFlaw 0 0 0 0 ? 1", new int[] {-1, LOW, 1, 2, HUGE});
        s.argument("addFlaw 0 0 0 0 ? " + HUGE, new int[] {-1, LOW, HUGE});
        s.argument("addFlaw 0 0 0 0 0 ?", new int[] {0, -1, LOW});
        s.argument("addFlaw 0 0 0 0 5 ?", new int[] {5, 4, 0, -1, LOW});
        s.due("addFlaw 0 0 0 0 5 6", 1);
        s.make("tear 0 0 0").due("stamp 0 8", 0);
    }

    private static void addFlawOfTheLeastAndTheGreatestNumbers() {
        Script s = twoPlates("Promise 3, addFlaw: the least and the greatest kinds and runs");
        s.make("print 0 0 999 0", "tear 0 0 0", "tear 2 0 0");
        s.due("addFlaw 0 0 0 0 0 1", 1).due("stamp 0 8", 1).due("stamp 1 8", 0);
        s.due("addFlaw 0 0 0 4 999 1000", 2).due("stamp 0 8", 1).due("stamp 1 8", 16);
        s.due("addFlaw 0 0 0 1 0 " + HUGE, 3).due("stamp 0 8", 3).due("stamp 1 8", 18);
        s.due("addFlaw 0 0 0 2 " + (HUGE - 1) + " " + HUGE, 4).due("addFlaw 0 0 0 2 1000 1001", 5);
        s.due("stamp 0 8", 3).due("stamp 1 8", 18);
    }

    private static void addFlawWhenFull() {
        Script s = twoPlates("Promise 3, addFlaw: it has 10");
        s.make("tear 0 1 1");
        for (int flaws = 1; flaws <= 10; flaws++) {
            s.due("addFlaw 0 " + flaws % 2 + " 0 " + flaws % 5 + " 0 1", flaws);
        }
        s.state("addFlaw 0 1 1 0 0 1").state("addFlaw 0 0 0 0 0 1").due("stamp 0 8", 0);
        s.due("addFlaw 1 1 1 0 0 1", 1);
        s.state("addFlaw 0 1 1 0 0 1");
        s.due("addFlaw 1 1 1 0 0 1", 2);
    }

    private static void addFlawInOrder() {
        Script s = twoPlates("Promise 3, addFlaw: the exception that is named first");
        s.index("addFlaw 2 0 0 5 0 1").index("addFlaw 0 2 0 0 -1 1").index("addFlaw 0 0 3 0 1 1");
        for (int flaws = 1; flaws <= 10; flaws++) {
            s.make("addFlaw 0 0 0 0 0 1");
        }
        s.index("addFlaw 2 0 0 0 0 1").index("addFlaw 0 2 0 0 0 1").index("addFlaw 0 0 -1 0 0 1");
        s.index("addFlaw 0 2 3 -1 -1 -1");
        s.argument("addFlaw 0 0 0 5 0 1").argument("addFlaw 0 0 0 0 -1 1").argument("addFlaw 0 0 0 0 1 1");
        s.state("addFlaw 0 0 0 0 0 1");
    }

    private static void addPaperOfAWrongSize() {
        Script s = new Script("Promise 4, addPaper: wide or high is not 1 to 4");
        s.argument("addPaper ? 1", Script.outside(1, 4)).argument("addPaper ? 4", Script.outside(1, 4));
        s.argument("addPaper 1 ?", Script.outside(1, 4)).argument("addPaper 4 ?", Script.outside(1, 4));
        s.argument("addPaper 0 0").argument("addPaper 5 5");
        s.due("addPaper 2 2", 0);
        s.argument("addPaper 5 1").argument("addPaper 1 0");
        s.due("addPaper 2 2", 1).due("count 1", 2);
    }

    private static void addPaperOfTheLeastAndTheLargestSize() {
        Script s = new Script("Promise 4, addPaper: 1 and 4 marks wide and high");
        s.due("addPaper 1 1", 0).due("addPaper 4 4", 1).due("addPaper 4 1", 2).due("addPaper 1 4", 3);
        s.make("addPlate 8 8");
        int[][] sizes = {{1, 1}, {4, 4}, {4, 1}, {1, 4}};
        int stamp = 0;
        for (int paper = 0; paper < 4; paper++) {
            s.make("print 0 " + paper + " 0 0");
            for (int at : new int[] {0, 3, 4, 7}) {
                s.make("tear " + paper + " " + at + " " + at);
                int mark = at % sizes[paper][1] * sizes[paper][0] + at % sizes[paper][0];
                s.due("stamp " + stamp + " 7", mark);
                stamp++;
            }
        }
    }

    private static void addPaperWhenFull() {
        Script s = new Script("Promise 4, addPaper: there are 4");
        for (int paper = 0; paper < 4; paper++) {
            s.due("addPaper " + (paper + 1) + " 1", paper).due("count 1", paper + 1);
        }
        s.state("addPaper 1 1").state("addPaper 4 4");
        s.argument("addPaper 0 1").argument("addPaper 1 5").argument("addPaper " + HUGE + " " + LOW);
        s.state("addPaper 1 1").due("count 1", 4);
        s.make("addPlate 1 1").due("print 0 3 0 0", 0).index("print 0 4 0 0");
    }

    private static void printFromNothing() {
        Script s = new Script("Promise 5, print: no such plate or paper");
        s.index("print 0 0 0 0");
        s.make("addPlate 1 1").index("print 0 0 0 0");
        s = new Script("Promise 5, print: no such plate or paper");
        s.make("addPaper 1 1").index("print 0 0 0 0");
        s.make("addPlate 2 2", "addPlate 2 2", "addPlate 2 2", "addPaper 2 2");
        s.index("print ? 0 0 0", Script.outside(0, 2)).index("print 0 ? 0 0", Script.outside(0, 1));
        s.index("print 3 2 0 0").index("print 5 0 0 0").index("print 6 0 0 0").index("print 0 3 0 0").index("print 0 4 0 0");
        s.due("print 2 1 0 0", 0).due("print 0 0 0 0", 1);
    }

    private static void printOfWrongNumbers() {
        Script s = new Script("Promise 5, print: run is not 0 to 999, or seed is not 0 to 9999")
            .make("addPlate 2 2", "addPaper 1 1");
        s.argument("print 0 0 ? 0", Script.outside(0, 999)).argument("print 0 0 0 ?", Script.outside(0, 9999));
        s.argument("print 0 0 999 ?", Script.outside(0, 9999)).argument("print 0 0 ? 9999", Script.outside(0, 999));
        s.argument("print 0 0 9999 999").due("count 2", 0).due("print 0 0 0 0", 0);
    }

    private static void printOfTheLeastAndTheGreatestNumbers() {
        Script s = new Script("Promise 5, print: the runs 0 and 999, the seeds 0 and 9999")
            .make("addPlate 1 2", "addPaper 1 1");
        s.make("addFlaw 0 0 0 0 0 1", "addFlaw 0 0 0 1 999 1000");
        s.due("print 0 0 0 9999", 0).due("print 0 0 999 0", 1).due("tear 0 0 0", 0).due("tear 1 0 0", 1);
        s.due("stamp 0 8", 1).due("stamp 1 8", 2);
        // (9999 * 31 + 1) * 40503 is 12554714910, and by the remainder of 2^32 3964780318.
        s.due("stamp 0 1", 3964780318L / 32 % 1024);
        s.due("stamp 1 1", 40503 / 32 % 1024);
    }

    private static void printWithTheFirstSetting() {
        Script s = new Script("Promise 5, print: the shift 0 and 0, and the gauges 10").make("addPlate 2 2", "addPaper 4 4");
        s.make("print 0 0 0 0", "tear 0 0 0", "tear 0 1 1");
        s.due("stamp 0 4", 10).due("stamp 0 5", 10).due("stamp 0 7", 0).due("stamp 1 7", 5);
        s.argument("forge 0 0 1024").argument("forge 0 1 1024").due("forge 0 0 1023", 0).due("forge 0 3 1023", 0);
    }

    private static void printWhenFull() {
        Script s = new Script("Promise 5, print: there are 10").make("addPlate 2 2", "addPaper 1 1");
        for (int sheet = 0; sheet < 10; sheet++) {
            s.due("print 0 0 " + sheet + " 1", sheet).due("count 2", sheet + 1);
        }
        s.state("print 0 0 0 0").state("print 0 0 999 9999").due("count 2", 10);
        s.due("tear 9 1 1", 0).index("tear 10 1 1");
    }

    private static void printInOrder() {
        Script s = new Script("Promise 5, print: the exception that is named first").make("addPlate 2 2", "addPaper 1 1");
        s.index("print 1 0 -1 0").index("print 0 1 0 10000").index("print -1 -1 1000 -1");
        for (int sheet = 0; sheet < 10; sheet++) {
            s.make("print 0 0 0 0");
        }
        s.index("print 1 0 0 0").index("print 0 1 0 0").index("print 1 1 -1 -1");
        s.argument("print 0 0 -1 0").argument("print 0 0 1000 0").argument("print 0 0 0 -1").argument("print 0 0 0 10000");
        s.state("print 0 0 0 0");
    }

    private static Script aSheet(String promise) {
        return new Script(promise).make("addPlate 3 4", "addPaper 4 4", "print 0 0 0 5");
    }

    private static void setSheetOfNoSheet() {
        Script s = aSheet("Promise 6, setSheet: no such sheet").make("print 0 0 0 5", "setSheet 0 1 1 5 5");
        s.index("setSheet ? 0 0 10 10", Script.outside(0, 1)).index("setSheet ? 3 3 16 16", new int[] {9, 10});
        s.due("setSheet 1 3 3 16 16", 12);
    }

    private static void setSheetOfWrongNumbers() {
        Script s = aSheet("Promise 6, setSheet: rows or columns is not 0 to 3, or across or down is not 5 to 16");
        s.argument("setSheet 0 ? 3 16 16", Script.outside(0, 3)).argument("setSheet 0 3 ? 16 16", Script.outside(0, 3));
        s.argument("setSheet 0 3 3 ? 16", Script.outside(5, 16)).argument("setSheet 0 3 3 16 ?", Script.outside(5, 16));
        s.argument("setSheet 0 3 3 0 16").argument("setSheet 0 3 3 16 0");
        s.make("tear 0 0 0").due("stamp 0 4", 10).due("stamp 0 5", 10).due("stamp 0 7", 0);
    }

    private static void setSheetOfTheLeastAndTheGreatestNumbers() {
        Script s = aSheet("Promise 6, setSheet: the shifts 0 and 3, the gauges 5 and 16");
        int[][] settings = {{0, 3, 5, 16}, {3, 0, 16, 5}, {3, 3, 16, 16}, {0, 0, 5, 5}};
        for (int sheet = 0; sheet < 4; sheet++) {
            int[] set = settings[sheet];
            s.make("print 0 0 0 5").due("setSheet " + sheet + " 1 2 9 11", 12);
            s.due("setSheet " + sheet + " " + set[0] + " " + set[1] + " " + set[2] + " " + set[3], 12);
            s.make("tear " + sheet + " 2 2");
            s.due("stamp " + sheet + " 4", set[2]).due("stamp " + sheet + " 5", set[3]);
            s.due("stamp " + sheet + " 7", (2 + set[0]) % 4 * 4 + (2 + set[1]) % 4);
        }
    }

    private static void setSheetReturnsItsStamps() {
        Script s = new Script("Promise 6, setSheet: the stamps that it has")
            .make("addPlate 1 1", "addPlate 8 8", "addPlate 1 8", "addPlate 8 1");
        s.make("addPaper 1 1", "print 0 0 0 0", "print 1 0 0 0", "print 2 0 0 0", "print 3 0 0 0");
        s.due("setSheet 0 0 0 5 5", 1).due("setSheet 1 0 0 5 5", 64).due("setSheet 2 0 0 5 5", 8)
            .due("setSheet 3 0 0 5 5", 8);
    }

    private static void setSheetWhenTorn() {
        Script s = aSheet("Promise 6, setSheet: something was torn from it").make("print 0 0 0 5");
        s.index("tear 0 3 0").index("tear 0 0 4").due("setSheet 0 1 1 6 7", 12);
        s.make("tear 0 2 3").state("setSheet 0 1 1 6 7").state("setSheet 0 0 0 10 10").state("setSheet 0 3 3 16 16");
        s.due("stamp 0 4", 6).due("stamp 0 5", 7).due("stamp 0 7", 12);
        s.make("mount 0 0 0").state("setSheet 0 0 0 10 10").make("release 0").state("setSheet 0 0 0 10 10");
        s.due("setSheet 1 0 0 10 10", 12);
        s.make("tear 1 0 0").state("setSheet 1 0 0 10 10").make("tear 0 0 0").due("stamp 2 7", 5);
    }

    private static void setSheetInOrder() {
        Script s = aSheet("Promise 6, setSheet: the exception that is named first").make("tear 0 0 0");
        s.index("setSheet 1 4 0 10 10").index("setSheet 1 0 0 4 10").index("setSheet -1 -1 -1 0 0");
        s.argument("setSheet 0 4 0 10 10").argument("setSheet 0 0 -1 10 10").argument("setSheet 0 0 0 4 10")
            .argument("setSheet 0 0 0 10 17");
        s.state("setSheet 0 0 0 10 10");
    }
}
