import java.math.BigInteger;
import java.util.ArrayList;
import java.util.List;

/** The boundary cases of the document's Terms, one by one; what is refused must change nothing. */
public final class TermsBoundariesTest {
    private static final int[] ROW_STEP = {-1, 0, 1, 0};
    private static final int[] COLUMN_STEP = {0, 1, 0, -1};

    public static void main(String[] args) {
        teethWrapAround();
        teethOfTheLeastAndTheGreatestGauge();
        teethAreNeverAllShortOrAllLong();
        teethAtTheEdgesOfTheSheet();
        oppositeSides();
        watermarkIsRepeated();
        watermarkBesideIsRepeated();
        flawsFromARunOnUpToAnother();
        flawsAreASetOfKinds();
        flawsToldWhenTornAlready();
        fitsOfAnySheet();
        neighboursFit();
        albumTakesAStampOnceAndAlone();
        refusedCallsChangeNothing();
        theLastOfTheCalls();
        Checks.end();
    }

    /** The teeth of the upper or left one by the words of the document, in numbers without an end. */
    private static int teeth(int seed, int n, int gauge) {
        BigInteger x = BigInteger.valueOf(seed).multiply(BigInteger.valueOf(31)).add(BigInteger.valueOf(n));
        x = x.multiply(BigInteger.valueOf(40503)).mod(BigInteger.TWO.pow(32));
        int teeth = x.divide(BigInteger.valueOf(32)).mod(BigInteger.TWO.pow(gauge)).intValue();
        return teeth == 0 || teeth == (1 << gauge) - 1 ? 1 : teeth;
    }

    /** Tears the stamps at a place, below it and to its right, and looks at the teeth between them. */
    private static void teethBetween(Script s, int sheet, int columns, int place, int[] told) {
        int row = place / columns;
        int column = place % columns;
        int stamp = Integer.parseInt(s.call("count 3"));
        int below = teeth(told[0], 2 * place, told[1]);
        int right = teeth(told[0], 2 * place + 1, told[2]);
        s.make("tear " + sheet + " " + row + " " + column);
        s.due("stamp " + stamp + " 2", below).due("stamp " + stamp + " 1", right);
        s.make("tear " + sheet + " " + (row + 1) + " " + column);
        s.due("stamp " + (stamp + 1) + " 0", (1 << told[1]) - 1 - below);
        s.make("tear " + sheet + " " + row + " " + (column + 1));
        s.due("stamp " + (stamp + 2) + " 3", (1 << told[2]) - 1 - right);
    }

    private static void teethWrapAround() {
        // (1710 * 31 + 10) * 40503 is the first of these beyond 2^31, that of 3421 beyond 2^32.
        for (int seed : new int[] {0, 1, 1709, 1710, 1711, 3420, 3421, 5131, 9998, 9999}) {
            Script s = new Script("Terms: products and sums in the formula of the teeth wrap around, seed " + seed);
            s.make("addPlate 8 8", "addPaper 1 1");
            int sheet = 0;
            for (int[] gauges : new int[][] {{16, 16}, {5, 16}, {10, 5}}) {
                for (int place : new int[] {0, 27, 54}) {
                    s.make("print 0 0 0 " + seed, "setSheet " + sheet + " 0 0 " + gauges[0] + " " + gauges[1]);
                    teethBetween(s, sheet, 8, place, new int[] {seed, gauges[0], gauges[1]});
                    sheet++;
                }
            }
        }
    }

    private static void teethOfTheLeastAndTheGreatestGauge() {
        Script s = new Script("Terms: teeth 0 to gauge less 1").make("addPlate 2 2", "addPaper 1 1");
        for (int sheet = 0; sheet < 10; sheet++) {
            int across = sheet % 2 == 0 ? 5 : 16;
            int down = sheet % 3 == 0 ? 16 : 5;
            s.make("print 0 0 0 " + (sheet * 1111), "setSheet " + sheet + " 0 0 " + across + " " + down);
            teethBetween(s, sheet, 2, 0, new int[] {sheet * 1111, across, down});
        }
    }

    /** Up to four seeds for which the formula gives these teeth, at this gauge, below the place 0. */
    private static List<Integer> seedsOf(int teeth, int gauge) {
        List<Integer> seeds = new ArrayList<>();
        for (int seed = 0; seed <= 9999 && seeds.size() < 4; seed++) {
            if ((seed * 31 * 40503 >>> 5) % (1 << gauge) == teeth) {
                seeds.add(seed);
            }
        }
        return seeds;
    }

    private static void teethAreNeverAllShortOrAllLong() {
        for (int gauge = 5; gauge <= 16; gauge++) {
            Script s = new Script("Terms: 1, if the teeth are all 0 or all 1, gauge " + gauge)
                .make("addPlate 2 2", "addPaper 1 1");
            List<Integer> seeds = seedsOf(0, gauge);
            Checks.due("some teeth are all 0 at the gauge " + gauge, false, seeds.isEmpty());
            seeds.addAll(seedsOf((1 << gauge) - 1, gauge));
            for (int sheet = 0; sheet < seeds.size(); sheet++) {
                s.make("print 0 0 0 " + seeds.get(sheet), "setSheet " + sheet + " 0 0 " + gauge + " " + gauge);
                teethBetween(s, sheet, 2, 0, new int[] {seeds.get(sheet), gauge, gauge});
                s.due("stamp " + sheet * 3 + " 2", 1).due("stamp " + (sheet * 3 + 1) + " 0", (1 << gauge) - 2);
                s.due("fits " + sheet * 3 + " 2 " + (sheet * 3 + 1), true)
                    .due("fits " + sheet * 3 + " 1 " + (sheet * 3 + 2), true);
            }
        }
        // To the right of the place 0: 15 gives none at the gauge 16; below it 4508 gives all.
        Script s = new Script("Terms: 1, if the teeth are all 0 or all 1, gauge 16").make("addPlate 2 2", "addPaper 1 1");
        s.make("print 0 0 0 15", "setSheet 0 0 0 16 16", "tear 0 0 0", "tear 0 0 1").due("stamp 0 1", 1)
            .due("stamp 1 3", 65534);
        s.make("print 0 0 0 4508", "setSheet 1 0 0 16 16", "tear 1 0 0", "tear 1 1 0").due("stamp 2 2", 1)
            .due("stamp 3 0", 65534);
    }

    private static void teethAtTheEdgesOfTheSheet() {
        for (int[] size : new int[][] {{1, 1}, {1, 8}, {8, 1}, {2, 2}, {3, 4}, {6, 6}}) {
            Script s = Scenes.torn("Terms: at an edge of the sheet the side is straight", size[0], size[1]);
            for (int stamp = 0; stamp < size[0] * size[1]; stamp++) {
                int row = stamp / size[1];
                int column = stamp % size[1];
                boolean[] edge = {row == 0, column == size[1] - 1, row == size[0] - 1, column == 0};
                for (int side = 0; side < 4; side++) {
                    boolean straight = s.call("stamp " + stamp + " " + side).equals("0");
                    Checks.due("Terms: straight just at an edge: " + row + ", " + column + " side " + side,
                        edge[side], straight);
                }
            }
        }
    }

    private static void oppositeSides() {
        Script s = Scenes.straight("Terms: the opposite side is 2 further, by the remainder of 4", 2);
        for (int side = 0; side < 4; side++) {
            int opposite = new int[] {2, 3, 0, 1}[side];
            s.make("forge 0 " + side + " 9", "forge 1 " + opposite + " 1014");
            for (int asked = 0; asked < 4; asked++) {
                s.due("fits 0 " + asked + " 1", asked == side).due("fits 1 " + asked + " 0", asked == opposite);
            }
            s.make("forge 0 " + side + " 0", "forge 1 " + opposite + " 0");
        }
    }

    private static void watermarkIsRepeated() {
        for (int size = 0; size < 16; size++) {
            int wide = 1 + size % 4;
            int high = 1 + size / 4;
            Script s = new Script("Terms: the pattern is repeated in both directions, " + wide + " by " + high);
            s.make("addPlate 8 8", "addPaper " + wide + " " + high);
            for (int sheet = 0; sheet < 4; sheet++) {
                s.make("print 0 0 0 0", "setSheet " + sheet + " " + sheet + " " + (3 - sheet) + " 10 10");
                for (int k = 0; k < 8; k++) {
                    int column = (k * 3 + sheet) % 8;
                    s.make("tear " + sheet + " " + k + " " + column);
                    int mark = (k + sheet) % high * wide + (column + 3 - sheet) % wide;
                    s.due("stamp " + (sheet * 8 + k) + " 7", mark);
                }
            }
        }
    }

    private static void watermarkBesideIsRepeated() {
        for (int size = 0; size < 16; size++) {
            int wide = 1 + size % 4;
            int high = 1 + size / 4;
            for (int place = 0; place < wide * high; place++) {
                watermarkBeside(wide, high, place);
            }
        }
    }

    /** A stamp at a place of the pattern, and one at each place of it: which of them are beside it. */
    private static void watermarkBeside(int wide, int high, int place) {
        Script s = new Script("Terms: the mark is that beside, in the repeated pattern, " + wide + " by " + high);
        s.make("addPlate 4 4", "addPaper " + wide + " " + high, "print 0 0 0 0", "print 0 0 0 0");
        s.make("tear 0 " + place / wide + " " + place % wide);
        Scenes.fitAll(s, 0);
        for (int other = 0; other < wide * high; other++) {
            s.make("tear 1 " + other / wide + " " + other % wide);
            Scenes.fitAll(s, other + 1);
            for (int side = 0; side < 4; side++) {
                int row = Math.floorMod(place / wide + ROW_STEP[side], high);
                int column = Math.floorMod(place % wide + COLUMN_STEP[side], wide);
                s.due("fits 0 " + side + " " + (other + 1), other == row * wide + column);
            }
        }
    }

    private static void flawsFromARunOnUpToAnother() {
        Script s = new Script("Terms: from a run on, up to another one (this one not)").make("addPlate 1 2", "addPaper 1 1");
        s.make("addFlaw 0 0 0 0 5 7", "addFlaw 0 0 0 1 6 7", "addFlaw 0 0 0 2 7 8", "addFlaw 0 0 0 3 0 5",
            "addFlaw 0 0 0 4 999 1000");
        int[][] runs = {{0, 8}, {4, 8}, {5, 1}, {6, 3}, {7, 4}, {8, 0}, {998, 0}, {999, 16}};
        for (int sheet = 0; sheet < runs.length; sheet++) {
            s.make("print 0 0 " + runs[sheet][0] + " 0", "tear " + sheet + " 0 0", "tear " + sheet + " 0 1");
            s.due("stamp " + sheet * 2 + " 8", runs[sheet][1]).due("stamp " + (sheet * 2 + 1) + " 8", 0);
        }
    }

    private static void flawsAreASetOfKinds() {
        Script s = Scenes.torn("Terms: the kinds of all flaws, as the sum of the powers 2^k", 1, 1);
        s.make("addFlaw 0 0 0 4 0 9", "addFlaw 0 0 0 4 0 9").due("stamp 0 8", 16).due("stamp 0 9", 40);
        s.make("addFlaw 0 0 0 4 1 9", "addFlaw 0 0 0 0 0 1").due("stamp 0 8", 17).due("stamp 0 9", 70);
        for (int kind = 0; kind < 5; kind++) {
            s.make("addFlaw 0 0 0 " + kind + " 0 1");
        }
        s.due("stamp 0 8", 31).due("stamp 0 9", 160);
        s.make("addFlaw 0 0 0 4 0 1").state("addFlaw 0 0 0 4 0 1").due("stamp 0 8", 31);
    }

    private static void flawsToldWhenTornAlready() {
        Script s = Scenes.torn("Terms: also flaws that are told when it is torn already", 1, 2).make("mount 0 0 0")
            .due("count 11", 10);
        s.make("addFlaw 0 0 0 3 0 1").due("stamp 0 8", 8).due("stamp 0 9", 40).due("count 11", 40).due("stamp 1 8", 0);
        s.make("addFlaw 0 0 0 2 1 1000").due("stamp 0 8", 8).make("release 0", "addFlaw 0 0 0 0 0 1000").due("stamp 0 8", 9);
        s.make("addPlate 1 2").make("addFlaw 1 0 0 1 0 1").due("stamp 0 8", 9).due("origin 0 0", 0);
    }

    private static void fitsOfAnySheet() {
        Script s = new Script("Terms: whether they are of the same sheet does not matter")
            .make("addPlate 1 2", "addPlate 2 2", "addPaper 1 1");
        s.make("print 0 0 0 7", "print 0 0 999 7", "print 1 0 5 7", "tear 0 0 0", "tear 1 0 1", "tear 2 0 1", "tear 0 0 1");
        s.asks("fits 0 1 1", true).asks("fits 1 3 0", true).asks("fits 0 1 2", true).asks("fits 0 1 3", true);
        s.make("mount 0 0 0").due("mount 1 0 1", 1).make("release 1").due("mount 2 0 1", 1);
    }

    private static void neighboursFit() {
        for (int size = 0; size < 16; size++) {
            Script s = new Script("Terms: those that were neighbours fit each other")
                .make("addPlate 3 3", "addPaper " + (1 + size % 4) + " " + (1 + size / 4));
            s.make("print 0 0 0 " + size * 600,
                "setSheet 0 " + size % 4 + " " + size / 4 + " " + (5 + size % 12) + " " + (16 - size % 12));
            for (int stamp = 0; stamp < 9; stamp++) {
                s.make("tear 0 " + stamp / 3 + " " + stamp % 3);
            }
            int[] beside = {1, 5, 7, 3};
            for (int side = 0; side < 4; side++) {
                s.due("fits 4 " + side + " " + beside[side], true)
                    .due("fits " + beside[side] + " " + (side + 2) % 4 + " 4", true);
            }
        }
    }

    private static void albumTakesAStampOnceAndAlone() {
        Script s = Scenes.alike("Terms: mounted at most once, alone on its place", 3);
        s.make("mount 0 7 7").state("mount 0 7 7").state("mount 0 7 6").state("mount 0 0 0").state("mount 1 7 7");
        s.make("mount 1 7 6").state("mount 2 7 6").state("mount 2 7 7").state("mount 1 0 0").argument("mount 2 7 8")
            .argument("mount 2 8 7");
        s.due("count 4", 2).make("release 0").due("mount 2 7 7", 1).state("mount 0 7 7");
    }

    private static void refusedCallsChangeNothing() {
        Script s = Scenes.torn("Terms: a method that throws an exception changes nothing", 2, 3)
            .make("addFlaw 0 0 1 2 0 9", "mount 0 0 0", "mount 1 0 1");
        String before = s.call("digest");
        s.argument("addPlate 9 1").index("addFlaw 0 2 0 0 0 1").argument("addFlaw 0 0 0 0 1 1").argument("addPaper 1 5");
        s.index("print 0 1 0 0").argument("print 0 0 1000 0").index("setSheet 1 0 0 5 5").argument("setSheet 0 0 0 5 17");
        s.state("setSheet 0 0 0 5 5").index("tear 0 0 3").state("tear 0 0 0").index("forge 6 0 1")
            .argument("forge 2 0 1024");
        s.state("forge 0 0 1").index("stamp 0 11").index("fits 0 4 1").argument("fits 1 0 1").index("fitting 0 0 -1")
            .index("origin 0 -1");
        s.index("mount 6 0 0").argument("mount 2 0 8").state("mount 0 1 1").state("mount 2 0 1").state("mount 5 0 2")
            .index("release 6");
        s.state("release 2").index("at 0 8").index("advise 6").state("advise 0").index("count 12");
        s.due("digest", before);
    }

    private static void theLastOfTheCalls() {
        Script s = Scenes.torn("What it is: used for at most 512 calls", 2, 2);
        while (s.calls() < Script.MOST_CALLS - 8) {
            s.make("mount 0 7 7", "release 0");
        }
        s.due("mount 0 7 6", 0).due("mount 1 7 7", 1).due("count 4", 2).due("at 7 7", 1);
        s.due("reunited", 0.25).due("stamp 1 10", 63).due("release 0", 62);
        Checks.due("all calls are made", Script.MOST_CALLS, s.calls());
    }
}
