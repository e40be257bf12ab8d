/** The boundary cases of the promises 7 to 12, one by one; what is refused must change nothing. */
public final class StampBoundariesTest {
    private static final int HUGE = Integer.MAX_VALUE;
    private static final int LOW = Integer.MIN_VALUE;

    public static void main(String[] args) {
        tearFromNowhere();
        tearAtTheCorners();
        tearWhereTornBefore();
        tearWhenFull();
        tearInOrder();
        forgeNoStampOrSide();
        forgeTooFewOrTooManyTeeth();
        forgeNoneAndAllTeeth();
        forgeWhenMounted();
        forgeInOrder();
        stampThatIsNotThere();
        stampTellsNoSuchThing();
        stampOfTheLeastAndTheGreatestAnswers();
        stampThatIsNotMounted();
        fitsOfNoStampOrSide();
        fitsOfTheSame();
        fitsNeitherNoneNorAll();
        fitsJustAllThatTheseAreNot();
        fitsOnlyOfTheSamePaper();
        fitsOnlyOfTheSameGauges();
        fittingOfWrongNumbers();
        fittingBeyondTheLast();
        fittingOfAFullBureau();
        fittingNotItself();
        originOfWrongNumbers();
        originBeyondTheLast();
        originInTheFirstAndTheLastRun();
        originWithJustTheFlaws();
        originJustAtTheEdges();
        originOfFullPlates();
        Checks.end();
    }

    private static void tearFromNowhere() {
        Script s = new Script("Promise 7, tear: no such sheet, or no such place on it").index("tear 0 0 0");
        s.make("addPlate 2 3", "addPlate 8 8", "addPaper 1 1").index("tear 0 0 0").make("print 0 0 0 1");
        s.index("tear ? 0 0", Script.outside(0, 0)).index("tear ? 0 0", new int[] {9, 10});
        s.index("tear 0 ? 0", Script.outside(0, 1)).index("tear 0 0 ?", Script.outside(0, 2));
        s.index("tear 0 2 3").index("tear 0 7 7").due("count 3", 0).due("tear 0 1 2", 0);
    }

    private static void tearAtTheCorners() {
        Script s = new Script("Promise 7, tear: the first and the last place")
            .make("addPlate 8 8", "addPlate 1 1", "addPaper 1 1");
        s.make("print 0 0 0 1", "print 1 0 0 1");
        s.due("tear 0 0 0", 0).due("tear 0 7 7", 1).due("tear 0 0 7", 2).due("tear 0 7 0", 3).due("tear 1 0 0", 4);
        s.index("tear 0 8 7").index("tear 0 7 8").index("tear 0 -1 0").index("tear 0 0 -1").index("tear 1 0 1")
            .index("tear 1 1 0");
        s.due("count 3", 5).asks("stamp 4 10", -1);
    }

    private static void tearWhereTornBefore() {
        Script s = Scenes.sheet("Promise 7, tear: it was torn before", 2, 3).make("print 0 0 0 1");
        s.due("tear 0 0 0", 0).state("tear 0 0 0").due("tear 0 1 2", 1).state("tear 0 1 2").state("tear 0 0 0");
        s.make("mount 0 0 0").state("tear 0 0 0").make("release 0").state("tear 0 0 0");
        s.make("forge 0 0 1").state("tear 0 0 0").due("count 3", 2);
        s.due("tear 1 0 0", 2).due("tear 0 0 1", 3).due("tear 0 1 0", 4);
    }

    private static Script fortyTorn(String promise) {
        Script s = Scenes.sheet(promise, 8, 8).make("print 0 0 0 1");
        for (int stamp = 0; stamp < 40; stamp++) {
            s.due("tear 0 " + (7 - stamp / 8) + " " + (7 - stamp % 8), stamp);
        }
        return s;
    }

    private static void tearWhenFull() {
        Script s = fortyTorn("Promise 7, tear: there are 40").due("count 3", 40);
        s.state("tear 0 0 0").state("tear 0 7 7").state("tear 1 0 0").due("count 3", 40);
        s.due("setSheet 1 1 1 5 5", 64).state("tear 1 0 0").due("setSheet 1 2 2 6 6", 64);
        s.index("stamp 40 0").due("stamp 39 10", -1);
    }

    private static void tearInOrder() {
        Script s = fortyTorn("Promise 7, tear: the exception that is named first");
        s.index("tear 2 7 7").index("tear 0 8 0").index("tear 0 0 -1").index("tear -1 -1 -1");
        s.state("tear 0 7 7").state("tear 0 0 0");
    }

    /** Two stamps of the gauges 5 across and 16 down. */
    private static Script twoGauges(String promise) {
        return Scenes.sheet(promise, 3, 3).make("setSheet 0 0 0 5 16", "tear 0 1 1", "tear 0 0 0");
    }

    private static void forgeNoStampOrSide() {
        Script s = new Script("Promise 8, forge: no such stamp, or side is not 0 to 3").index("forge 0 0 0");
        s = twoGauges("Promise 8, forge: no such stamp, or side is not 0 to 3");
        s.index("forge ? 0 1", Script.outside(0, 1)).index("forge ? 3 1", new int[] {39, 40});
        s.index("forge 0 ? 1", Script.outside(0, 3)).index("forge 1 ? 0", Script.outside(0, 3));
        s.index("forge 2 4 1");
    }

    private static void forgeTooFewOrTooManyTeeth() {
        Script s = twoGauges("Promise 8, forge: teeth is not 0 to the sum of all that the gauge of this side allows");
        for (int side = 0; side < 4; side++) {
            s.argument("forge 0 " + side + " ?", Script.outside(0, side % 2 == 0 ? 31 : 65535));
        }
        s.argument("forge 0 0 65535").argument("forge 0 2 63").argument("forge 0 1 131071").argument("forge 0 3 65537");
    }

    private static void forgeNoneAndAllTeeth() {
        Script s = twoGauges("Promise 8, forge: 0 and all teeth; its teeth before");
        for (int side = 0; side < 4; side++) {
            int all = side % 2 == 0 ? 31 : 65535;
            String before = s.call("stamp 0 " + side);
            s.due("forge 0 " + side + " 0", before).due("stamp 0 " + side, 0);
            s.due("forge 0 " + side + " " + all, 0).due("stamp 0 " + side, all);
            s.due("forge 0 " + side + " " + all, all).due("forge 0 " + side + " 1", all).due("stamp 0 " + side, 1);
        }
        s.due("forge 1 0 31", 0).due("forge 1 3 65535", 0).due("forge 1 0 0", 31).due("stamp 0 0", 1);
    }

    private static void forgeWhenMounted() {
        Script s = twoGauges("Promise 8, forge: it is mounted");
        s.make("forge 0 0 7", "mount 0 0 0");
        for (int side = 0; side < 4; side++) {
            s.state("forge 0 " + side + " 0").state("forge 0 " + side + " 31");
        }
        s.state("forge 0 0 7").due("forge 1 0 3", 0).due("stamp 0 0", 7);
        s.make("release 0").due("forge 0 0 9", 7).due("stamp 0 0", 9);
        s.make("mount 0 7 7").state("forge 0 0 7");
    }

    private static void forgeInOrder() {
        Script s = twoGauges("Promise 8, forge: the exception that is named first").make("mount 0 0 0");
        s.index("forge 2 0 -1").index("forge 0 4 -1").index("forge 0 -1 32").index("forge -1 -1 -1");
        s.index("forge 0 4 0");
        s.argument("forge 0 0 32").argument("forge 0 1 65536").argument("forge 0 2 -1");
        s.state("forge 0 0 31");
    }

    private static void stampThatIsNotThere() {
        new Script("Promise 9, stamp: no such stamp").index("stamp 0 0").index("stamp 0 11").index("stamp -1 0");
        Script s = Scenes.torn("Promise 9, stamp: no such stamp", 1, 2);
        s.index("stamp ? 0", Script.outside(0, 1)).index("stamp ? 10", Script.outside(0, 1));
        s.index("stamp ? 5", new int[] {39, 40, 64});
        s = fortyTorn("Promise 9, stamp: no such stamp").index("stamp ? 9", Script.outside(0, 39)).due("stamp 39 9", 10);
    }

    private static void stampTellsNoSuchThing() {
        Script s = Scenes.torn("Promise 9, stamp: what is not 0 to 10", 1, 2);
        s.index("stamp 0 ?", Script.outside(0, 10)).index("stamp 1 ?", Script.outside(0, 10)).index("stamp 2 11");
        s.asks("stamp 0 0", 0).asks("stamp 0 10", -1);
    }

    private static void stampOfTheLeastAndTheGreatestAnswers() {
        Script s = new Script("Promise 9, stamp: the least and the greatest answers")
            .make("addPlate 8 8", "addPaper 4 4", "addPaper 1 1", "addPaper 1 1", "addPaper 4 4");
        s.make("print 0 0 0 0", "print 0 3 0 0", "setSheet 0 0 0 5 16", "setSheet 1 3 3 16 5", "tear 0 0 0", "tear 1 0 0");
        s.due("stamp 0 0", 0).due("stamp 0 3", 0).due("stamp 0 4", 5).due("stamp 0 5", 16).due("stamp 0 6", 0);
        s.due("stamp 0 7", 0).due("stamp 0 8", 0).due("stamp 0 9", 10).due("stamp 0 10", -1);
        for (int kind = 0; kind < 5; kind++) {
            s.make("addFlaw 0 0 0 " + kind + " 0 1");
            s.due("stamp 1 8", (1 << kind + 1) - 1).due("stamp 1 9", 10 + 30 * (kind + 1));
        }
        s.make("addFlaw 0 0 0 4 0 1").due("stamp 1 8", 31).due("stamp 1 9", 160);
        s.make("forge 1 0 65535", "forge 1 1 31", "mount 1 7 7", "mount 0 0 0");
        s.due("stamp 1 0", 65535).due("stamp 1 1", 31).due("stamp 1 4", 16).due("stamp 1 5", 5).due("stamp 1 6", 3);
        s.due("stamp 1 7", 15).due("stamp 1 10", 63).due("stamp 0 10", 0);
    }

    private static void stampThatIsNotMounted() {
        Script s = Scenes.torn("Promise 9, stamp: -1 if it is not mounted", 1, 2).asks("stamp 0 10", -1);
        s.make("mount 0 0 0").asks("stamp 0 10", 0).asks("stamp 1 10", -1).make("release 0").asks("stamp 0 10", -1);
        s.make("mount 0 7 0").asks("stamp 0 10", 56).state("mount 0 0 7").asks("stamp 0 10", 56);
        s.argument("mount 1 8 0").state("mount 1 7 0").asks("stamp 1 10", -1);
    }

    private static void fitsOfNoStampOrSide() {
        new Script("Promise 10, fits: no such stamp").index("fits 0 0 1").index("fits 0 0 0").index("fits -1 4 -1");
        Script s = Scenes.torn("Promise 10, fits: no such stamp, or side is not 0 to 3", 1, 2);
        s.index("fits ? 1 1", Script.outside(0, 1)).index("fits 0 1 ?", Script.outside(0, 1));
        s.index("fits ? 0 0", new int[] {39, 40}).index("fits 0 0 ?", new int[] {39, 40});
        s.index("fits 0 ? 1", Script.outside(0, 3)).index("fits 2 4 3").asks("fits 0 1 1", true);
    }

    private static void fitsOfTheSame() {
        Script s = Scenes.torn("Promise 10, fits: both are the same", 1, 2);
        for (int side = 0; side < 4; side++) {
            s.argument("fits 0 " + side + " 0").argument("fits 1 " + side + " 1");
            s.index("fits 2 " + side + " 2").index("fits -1 " + side + " -1");
        }
        s.index("fits 0 4 0").index("fits 1 -1 1");
    }

    private static void fitsNeitherNoneNorAll() {
        Script s = new Script("Promise 10, fits: the teeth are neither 0 nor all").make("addPlate 1 2", "addPaper 1 1");
        int stamp = 0;
        for (int gauge : new int[] {5, 10, 16}) {
            int all = (1 << gauge) - 1;
            String sheet = s.call("print 0 0 0 0");
            s.make("print 0 0 0 0");
            s.make("setSheet " + sheet + " 0 0 5 " + gauge, "tear " + sheet + " 0 0", "tear " + sheet + " 0 1");
            int[][] teeth = {{0, all}, {all, 0}, {1, all - 1}, {all - 1, 1}, {0, 0}, {all, all}};
            for (int k = 0; k < teeth.length; k++) {
                s.make("forge " + stamp + " 1 " + teeth[k][0], "forge " + (stamp + 1) + " 3 " + teeth[k][1]);
                boolean due = k == 2 || k == 3;
                s.due("fits " + stamp + " 1 " + (stamp + 1), due).due("fits " + (stamp + 1) + " 3 " + stamp, due);
            }
            stamp += 2;
        }
    }

    private static void fitsJustAllThatTheseAreNot() {
        Script s = Scenes.torn("Promise 10, fits: just all the teeth that these are not", 2, 2);
        int before = Integer.parseInt(s.call("stamp 1 3"));
        s.asks("fits 0 1 1", true).asks("fits 1 3 0", true).asks("fits 0 2 2", true).asks("fits 2 0 0", true);
        for (int tooth = 0; tooth < 10; tooth++) {
            s.make("forge 1 3 " + (before ^ 1 << tooth)).due("fits 0 1 1", false).due("fits 1 3 0", false);
        }
        s.make("forge 1 3 " + (1023 - before)).due("fits 0 1 1", false);
        s.make("forge 1 3 " + before).due("fits 0 1 1", true);
        s.due("fits 0 2 1", false).due("fits 0 3 1", false).due("fits 0 0 1", false).due("fits 1 1 0", false);
    }

    private static void fitsOnlyOfTheSamePaper() {
        Script s = new Script("Promise 10, fits: both are of the same paper")
            .make("addPlate 1 2", "addPaper 1 1", "addPaper 1 1");
        s.make("print 0 0 0 7", "print 0 1 0 7", "print 0 0 0 7", "tear 0 0 0", "tear 1 0 1", "tear 2 0 1");
        s.asks("fits 0 1 1", false).asks("fits 1 3 0", false).asks("fits 0 1 2", true).asks("fits 2 3 0", true);
    }

    private static void fitsOnlyOfTheSameGauges() {
        Script s = new Script("Promise 10, fits: both have the same gauges").make("addPlate 2 2", "addPaper 1 1");
        int[][] gauges = {{10, 10}, {11, 10}, {10, 11}, {9, 10}, {10, 9}, {10, 10}};
        for (int sheet = 0; sheet < gauges.length; sheet++) {
            s.make("print 0 0 0 7", "setSheet " + sheet + " 0 0 " + gauges[sheet][0] + " " + gauges[sheet][1],
                "tear " + sheet + " 0 0");
            for (int side = 0; side < 4; side++) {
                int all = (1 << gauges[sheet][side % 2]) - 1;
                s.make("forge " + sheet + " " + side + " " + (side < 2 ? 3 : Math.min(all, 1023) - 3));
            }
        }
        for (int other = 1; other < gauges.length; other++) {
            for (int side = 0; side < 4; side++) {
                s.due("fits 0 " + side + " " + other, other == 5).due("fits " + other + " " + side + " 0", other == 5);
            }
        }
    }

    private static void fittingOfWrongNumbers() {
        new Script("Promise 11, fitting: no such stamp").index("fitting 0 0 0");
        Script s = Scenes.torn("Promise 11, fitting: no such stamp, side is not 0 to 3, or index is less than 0", 1, 2);
        s.index("fitting ? 1 0", Script.outside(0, 1)).index("fitting ? 1 0", new int[] {39, 40});
        s.index("fitting 0 ? 0", Script.outside(0, 3)).index("fitting 0 1 ?", new int[] {-1, LOW});
        s.index("fitting 2 4 -1").index("fitting 0 0 -1");
    }

    private static void fittingBeyondTheLast() {
        Script s = Scenes.torn("Promise 11, fitting: -1 if there are not so many", 1, 3);
        s.asks("fitting 0 1 0", 1).asks("fitting 0 1 1", -1).asks("fitting 0 1 " + HUGE, -1).asks("fitting 0 3 0", -1);
        s.asks("fitting 1 1 0", 2).asks("fitting 1 3 0", 0).asks("fitting 2 3 0", 1).asks("fitting 2 1 0", -1);
        s = Scenes.torn("Promise 11, fitting: -1 if there are not so many", 1, 1);
        for (int side = 0; side < 4; side++) {
            s.asks("fitting 0 " + side + " 0", -1).asks("fitting 0 " + side + " " + HUGE, -1);
        }
    }

    private static void fittingOfAFullBureau() {
        Script s = Scenes.alike("Promise 11, fitting: in ascending order, from 0", 40);
        for (int index = 0; index < 41; index++) {
            s.due("fitting 0 0 " + index, index < 39 ? index + 1 : -1);
            s.due("fitting 20 3 " + index, index < 20 ? index : index < 39 ? index + 1 : -1);
            s.due("fitting 39 1 " + index, index < 39 ? index : -1);
        }
        s.index("fitting 40 0 0");
    }

    private static void fittingNotItself() {
        Script s = Scenes.alike("Promise 11, fitting: never of itself", 1);
        for (int side = 0; side < 4; side++) {
            s.asks("fitting 0 " + side + " 0", -1);
        }
        s.due("reunited", 0.0).due("count 9", 1);
    }

    private static void originOfWrongNumbers() {
        new Script("Promise 12, origin: no such stamp").index("origin 0 0").index("origin -1 -1");
        Script s = Scenes.torn("Promise 12, origin: no such stamp, or index is less than 0", 1, 2);
        s.index("origin ? 0", Script.outside(0, 1)).index("origin ? 0", new int[] {39, 40});
        s.index("origin 0 ?", new int[] {-1, LOW}).index("origin 2 -1");
    }

    private static void originBeyondTheLast() {
        Script s = Scenes.torn("Promise 12, origin: -1 if there are not so many", 1, 2);
        s.asks("origin 0 0", 0).asks("origin 0 1", -1).asks("origin 0 " + HUGE, -1).asks("origin 1 0", 1)
            .asks("origin 1 1", -1);
        s.make("addPlate 1 2").asks("origin 0 1", 64).asks("origin 0 2", -1).asks("origin 1 1", 65);
        s.make("forge 0 0 1").asks("origin 0 0", -1).asks("origin 0 " + HUGE, -1);
    }

    private static void originInTheFirstAndTheLastRun() {
        Script s = Scenes.torn("Promise 12, origin: in some run, 0 to 999", 1, 1)
            .make("addPlate 1 1", "addPlate 1 1", "addPlate 1 1");
        s.make("addFlaw 1 0 0 0 0 999").asks("origin 0 1", 64);
        s.make("addFlaw 1 0 0 1 999 " + HUGE).asks("origin 0 1", 128);
        s.make("addFlaw 2 0 0 0 1 " + HUGE).asks("origin 0 1", 128);
        s.make("addFlaw 2 0 0 1 0 1").asks("origin 0 1", 192).asks("origin 0 2", -1);
        s.make("addFlaw 3 0 0 0 1000 1001").asks("origin 0 1", 192);
        s.make("addFlaw 0 0 0 0 0 1").asks("origin 0 0", 0).asks("origin 0 1", 64).asks("origin 0 2", 128)
            .asks("origin 0 3", -1);
        s.make("addFlaw 0 0 0 1 0 1").asks("origin 0 0", 0).asks("origin 0 1", -1);
        s.make("addFlaw 3 0 0 1 999 1000").asks("origin 0 1", -1);
        s.make("addFlaw 3 0 0 0 0 1000").asks("origin 0 1", 192).asks("origin 0 2", -1);
    }

    private static void originWithJustTheFlaws() {
        Script s = Scenes.torn("Promise 12, origin: just the flaws of the stamp", 1, 1).make("addPlate 1 1");
        for (int kind = 0; kind < 5; kind++) {
            s.make("addFlaw 0 0 0 " + kind + " 0 1");
            s.asks("origin 0 0", 0).asks("origin 0 1", -1);
            s.make("addFlaw 1 0 0 " + kind + " 500 501");
            s.asks("origin 0 1", 64).asks("origin 0 2", -1);
        }
        s.due("stamp 0 8", 31);
        s.make("addFlaw 1 0 0 4 500 501").asks("origin 0 1", 64);
        s.make("print 1 0 0 0", "tear 1 0 0").asks("origin 1 0", 0).asks("origin 1 1", 64).asks("origin 1 2", -1);
    }

    private static void originJustAtTheEdges() {
        String promise = "Promise 12, origin: at an edge just at those sides where the stamp is straight";
        int[][] sizes = {{1, 1}, {1, 2}, {2, 1}, {2, 2}, {3, 3}, {1, 3}, {3, 1}};
        for (int[] size : sizes) {
            Script s = Scenes.torn(promise, size[0], size[1]);
            for (int place = 0; place < size[0] * size[1]; place++) {
                s.asks("origin " + place + " 0", place / size[1] * 8 + place % size[1]).asks("origin " + place + " 1", -1);
            }
        }
        Script s = Scenes.torn(promise + " now, forged or not", 3, 3);
        s.make("forge 4 0 1023").asks("origin 4 0", 9);
        s.make("forge 4 0 0").asks("origin 4 0", 1).make("forge 4 3 0").asks("origin 4 0", 0);
        s.make("forge 4 0 5").asks("origin 4 0", 8).make("forge 4 1 0").asks("origin 4 0", -1);
        s.make("forge 0 0 1", "forge 0 3 1").asks("origin 0 0", 9).make("mount 0 0 0").asks("origin 0 0", 9);
    }

    private static void originOfFullPlates() {
        Script s = new Script("Promise 12, origin: plate by plate, row by row").make("addPaper 1 1");
        for (int plate = 0; plate < 6; plate++) {
            s.make("addPlate 8 8");
        }
        s.make("print 5 0 0 1", "tear 0 4 4", "tear 0 7 7");
        for (int index = 0; index < 216; index++) {
            s.due("origin 0 " + index, index / 36 * 64 + (1 + index % 36 / 6) * 8 + 1 + index % 6);
        }
        s.due("origin 0 216", -1).due("origin 0 " + HUGE, -1);
        for (int index = 0; index < 6; index++) {
            s.due("origin 1 " + index, index * 64 + 63);
        }
        s.due("origin 1 6", -1);
    }
}
