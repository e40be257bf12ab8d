import java.math.BigInteger;

/** The boundary cases of the promises 13 to 19, one by one; what is refused must change nothing. */
public final class AlbumBoundariesTest {
    private static final int HUGE = Integer.MAX_VALUE;
    private static final String COUNTS_AT_THE_RIM = "Promise 17, count: side by side is not over the rim";

    public static void main(String[] args) {
        mountNoStamp();
        mountOutside();
        mountAtTheCorners();
        mountWhenMounted();
        mountWhereTaken();
        mountWhereItDoesNotFit();
        mountCountsThoseBeside();
        mountInOrder();
        releaseNoStamp();
        releaseWhenNotMounted();
        releaseAtTheCorners();
        atOutside();
        atEmptyAndTakenPlaces();
        adviseNoStamp();
        adviseWhenMounted();
        adviseNowhere();
        adviseAtTheRim();
        adviseTheMostAndTheLeast();
        countOfNoSuchThing();
        countOfNothing();
        countWhenFull();
        countOneStamp();
        countPairsAtTheRim();
        countBlocksAtTheRim();
        countWhatHangsTogether();
        countRectangles();
        countGroupsOfOne();
        countTheLargestGroupAlone();
        countOneGroupOfAll();
        countGroupsOverOthers();
        countTheWorth();
        reunitedOfNone();
        reunitedOfSomeAndOfAll();
        reunitedCountsEachPairOnce();
        digestOfNothing();
        digestWrapsAround();
        Checks.end();
    }

    private static void mountNoStamp() {
        new Script("Promise 13, mount: no such stamp").index("mount 0 0 0").index("mount 0 8 8").index("mount -1 0 0");
        Script s = Scenes.torn("Promise 13, mount: no such stamp", 1, 2);
        s.index("mount ? 0 0", Script.outside(0, 1)).index("mount ? 7 7", new int[] {39, 40}).due("count 4", 0);
    }

    private static void mountOutside() {
        Script s = Scenes.torn("Promise 13, mount: row or column is not 0 to 7", 1, 2);
        s.argument("mount 0 ? 0", Script.outside(0, 7)).argument("mount 0 0 ?", Script.outside(0, 7));
        s.argument("mount 0 ? 7", Script.outside(0, 7)).argument("mount 0 7 ?", Script.outside(0, 7));
        s.argument("mount 0 8 -8").argument("mount 0 -1 15").argument("mount 0 0 63").due("count 4", 0);
    }

    private static void mountAtTheCorners() {
        Script s = Scenes.torn("Promise 13, mount: row and column 0 and 7", 2, 2);
        s.due("mount 0 0 0", 0).due("mount 1 0 7", 0).due("mount 2 7 0", 0).due("mount 3 7 7", 0);
        s.due("stamp 0 10", 0).due("stamp 1 10", 7).due("stamp 2 10", 56).due("stamp 3 10", 63).due("count 4", 4);
    }

    private static void mountWhenMounted() {
        Script s = Scenes.torn("Promise 13, mount: it is mounted", 1, 2).make("mount 0 3 3");
        s.state("mount 0 3 3").state("mount 0 0 0").state("mount 0 3 4").state("mount 0 7 7").due("stamp 0 10", 27);
        s.make("mount 1 3 4").state("mount 0 3 4").state("mount 1 3 3").state("mount 1 5 5");
        s.make("release 0").due("mount 0 0 0", 0).state("mount 0 3 3");
    }

    private static void mountWhereTaken() {
        Script s = Scenes.torn("Promise 13, mount: the place is taken", 1, 3).make("mount 0 0 0", "mount 2 7 7");
        s.state("mount 1 0 0").state("mount 1 7 7").due("at 0 0", 0).due("stamp 1 10", -1);
        s.make("release 0").due("mount 1 0 0", 0).state("mount 0 0 0");
    }

    private static void mountWhereItDoesNotFit() {
        Script s = Scenes.torn("Promise 13, mount: it does not fit one that is beside it", 3, 3).make("mount 4 3 3");
        int[][] beside = {{2, 3, 1}, {3, 4, 5}, {4, 3, 7}, {3, 2, 3}};
        for (int[] place : beside) {
            for (int stamp = 0; stamp < 9; stamp++) {
                if (stamp != 4 && stamp != place[2]) {
                    s.state("mount " + stamp + " " + place[0] + " " + place[1]);
                }
            }
        }
        s.due("mount 1 2 3", 1).due("mount 3 3 2", 1).state("mount 2 2 2").due("mount 0 2 2", 2);
        s.due("mount 8 4 4", 0).due("mount 2 5 3", 0).state("mount 7 4 3").make("release 2").due("mount 7 4 3", 2);
    }

    private static void mountCountsThoseBeside() {
        Script s = Scenes.alike("Promise 13, mount: how many mounted stamps are beside it, 0 to 4", 12);
        s.due("mount 0 3 3", 0).due("mount 1 3 5", 0).due("mount 2 3 4", 2).due("mount 3 5 4", 0).due("mount 4 4 4", 2);
        s.make("release 4").due("mount 5 4 3", 1).due("mount 6 4 5", 1).due("mount 7 4 4", 4);
        s.due("mount 8 2 2", 0).due("mount 9 2 3", 2).due("mount 10 2 4", 2).due("mount 11 2 5", 2).due("at 4 4", 7);
    }

    private static void mountInOrder() {
        Script s = Scenes.torn("Promise 13, mount: the exception that is named first", 1, 3).make("mount 0 0 0");
        s.index("mount 3 8 0").index("mount 3 0 -1").index("mount 3 0 0").index("mount -1 0 1");
        s.argument("mount 0 8 0").argument("mount 0 0 -1").argument("mount 2 1 -8");
        s.state("mount 0 0 0").state("mount 1 0 0").state("mount 2 0 1");
    }

    private static void releaseNoStamp() {
        new Script("Promise 14, release: no such stamp").index("release 0").index("release -1");
        Script s = Scenes.torn("Promise 14, release: no such stamp", 1, 2).make("mount 0 0 0", "mount 1 7 7");
        s.index("release ?", Script.outside(0, 1)).index("release ?", new int[] {39, 40}).due("count 4", 2);
    }

    private static void releaseWhenNotMounted() {
        Script s = Scenes.torn("Promise 14, release: it is not mounted", 1, 2).state("release 0").state("release 1");
        s.make("mount 0 0 0").state("release 1").due("release 0", 0).state("release 0");
        s.argument("mount 0 8 0").state("release 0").make("mount 1 0 0").state("release 0").due("release 1", 0)
            .state("release 1");
    }

    private static void releaseAtTheCorners() {
        Script s = Scenes.torn("Promise 14, release: the place where it was", 2, 2);
        s.make("mount 0 0 0", "mount 1 0 7", "mount 2 7 0", "mount 3 7 7");
        s.due("release 0", 0).due("release 1", 7).due("release 2", 56).due("release 3", 63).due("count 4", 0);
        for (int place : new int[] {0, 7, 56, 63}) {
            s.due("at " + place / 8 + " " + place % 8, -1).due("mount 0 " + place / 8 + " " + place % 8, 0)
                .due("release 0", place);
        }
        s.due("mount 0 3 3", 0).due("mount 1 3 4", 1).due("mount 3 4 4", 1).due("release 1", 28).due("count 4", 2);
        s.due("mount 2 4 3", 2).due("mount 1 3 4", 2);
    }

    private static void atOutside() {
        Script s = new Script("Promise 15, at: row or column is not 0 to 7");
        s.index("at ? 0", Script.outside(0, 7)).index("at 0 ?", Script.outside(0, 7)).index("at 8 8").index("at -1 -1");
        s = Scenes.torn("Promise 15, at: row or column is not 0 to 7", 2, 2)
            .make("mount 0 0 0", "mount 1 0 7", "mount 2 7 0", "mount 3 7 7");
        s.index("at ? 7", Script.outside(0, 7)).index("at 7 ?", Script.outside(0, 7)).index("at 1 -1").index("at 0 63")
            .index("at -1 8");
    }

    private static void atEmptyAndTakenPlaces() {
        Script s = Scenes.torn("Promise 15, at: -1 if there is none", 2, 2)
            .make("mount 3 0 0", "mount 2 0 7", "mount 1 7 0", "mount 0 7 7");
        for (int place = 0; place < 64; place++) {
            int want = place == 0 ? 3 : place == 7 ? 2 : place == 56 ? 1 : place == 63 ? 0 : -1;
            s.due("at " + place / 8 + " " + place % 8, want);
        }
        s.make("release 0").asks("at 7 7", -1).make("mount 0 7 6").asks("at 7 6", 0).asks("at 7 7", -1);
    }

    private static void adviseNoStamp() {
        new Script("Promise 16, advise: no such stamp").index("advise 0").index("advise -1");
        Script s = Scenes.torn("Promise 16, advise: no such stamp", 1, 2);
        s.index("advise ?", Script.outside(0, 1)).index("advise ?", new int[] {39, 40});
    }

    private static void adviseWhenMounted() {
        Script s = Scenes.torn("Promise 16, advise: it is mounted", 1, 2).make("mount 0 0 0").state("advise 0");
        s.asks("advise 1", 1).make("mount 1 0 1").state("advise 1").state("advise 0").make("release 0").asks("advise 0", 0);
    }

    private static void adviseNowhere() {
        Script s = Scenes.torn("Promise 16, advise: -1 if there is none", 1, 3).asks("advise 0", -1).asks("advise 1", -1);
        s.make("mount 0 0 0").asks("advise 2", -1).asks("advise 1", 1);
        s.make("release 0", "mount 0 3 7").asks("advise 1", -1);
        s.make("release 0", "mount 2 3 0").asks("advise 1", -1).make("mount 0 5 0").asks("advise 1", 41);
        s.make("release 0", "release 2", "mount 2 3 4", "mount 0 3 2").asks("advise 1", 27);
        s = Scenes.torn("Promise 16, advise: the only place is taken", 1, 4).make("mount 0 0 0", "forge 3 3 0");
        s.make("forge 3 0 1", "forge 3 2 1022", "mount 3 0 7").asks("advise 2", -1).make("mount 1 0 1").asks("advise 2", 2);
        s.make("forge 2 0 0").asks("advise 2", 2).make("mount 2 0 2").state("advise 2");
    }

    private static void adviseAtTheRim() {
        int[][] rims = {{0, 0, 1}, {0, 7, 6}, {7, 0, 48}, {7, 7, 55}, {0, 3, 2}, {7, 3, 51}, {3, 0, 16}, {3, 7, 23}};
        for (int[] rim : rims) {
            Script s = Scenes.alike("Promise 16, advise: at the rim, the least", 2).make("mount 0 " + rim[0] + " " + rim[1]);
            s.asks("advise 1", rim[2]).due("mount 1 " + rim[2] / 8 + " " + rim[2] % 8, 1);
        }
        Script s = Scenes.torn("Promise 16, advise: not over the rim", 2, 2).make("mount 0 0 7").asks("advise 1", -1)
            .asks("advise 2", 15);
        s.make("release 0", "mount 0 7 0").asks("advise 2", -1).asks("advise 1", 57);
        s.make("release 0", "mount 3 0 0").asks("advise 1", -1).asks("advise 2", -1);
    }

    private static void adviseTheMostAndTheLeast() {
        Script s = Scenes.alike("Promise 16, advise: the most stamps beside it, of several the least place", 12);
        s.make("mount 0 0 0", "mount 1 0 1").asks("advise 11", 2).make("mount 2 1 0").asks("advise 11", 9);
        s.make("mount 3 5 6", "mount 4 6 5").asks("advise 11", 9).make("mount 5 7 6").asks("advise 11", 54);
        s.make("mount 6 6 7").asks("advise 11", 54).make("mount 7 6 6").asks("advise 11", 9);
        s.make("mount 8 1 1").asks("advise 11", 45);
        s.make("release 3", "release 4", "release 5", "release 6", "release 7").asks("advise 11", 2);
        s.make("mount 3 2 2").asks("advise 11", 10).make("release 8").asks("advise 11", 9);
    }

    private static void countOfNoSuchThing() {
        Script s = new Script("Promise 17, count: what is not 0 to 11").index("count ?", Script.outside(0, 11));
        s = Scenes.torn("Promise 17, count: what is not 0 to 11", 2, 2).make("mount 0 0 0");
        s.index("count ?", Script.outside(0, 11)).index("count 64").asks("count 0", 1).asks("count 11", 10);
    }

    private static void counts(Script s, int... want) {
        for (int what = 0; what < want.length; what++) {
            s.asks("count " + what, want[what]);
        }
    }

    private static void countOfNothing() {
        counts(new Script("Promise 17, count: an empty bureau"), 0, 0, 0, 0, 0, 0, 0, 0, 0, 0, 0, 0);
        counts(Scenes.sheet("Promise 17, count: no stamp", 8, 8), 1, 1, 1, 0, 0, 0, 0, 0, 0, 0, 0, 0);
        counts(Scenes.torn("Promise 17, count: an empty album", 2, 2), 1, 1, 1, 4, 0, 0, 0, 0, 0, 1, 4, 0);
        Script s = Scenes.torn("Promise 17, count: an album empty again", 1, 2)
            .make("mount 0 0 0", "mount 1 0 1", "release 0", "release 1");
        counts(s, 1, 1, 1, 2, 0, 0, 0, 0, 0, 1, 2, 0);
    }

    private static void countWhenFull() {
        Script s = Scenes.alike("Promise 17, count: all that there can be", 40);
        for (int k = 0; k < 5; k++) {
            s.make("addPlate 1 1");
        }
        s.make("addPaper 1 1", "addPaper 1 1", "addPaper 1 1");
        for (int k = 0; k < 9; k++) {
            s.make("print 1 1 0 0");
        }
        for (int stamp = 0; stamp < 40; stamp++) {
            s.make("mount " + stamp + " " + stamp / 8 + " " + stamp % 8);
        }
        counts(s, 6, 4, 10, 40, 40, 5 * 7 + 4 * 8, 4 * 7, 40, 40, 1, 40, 400 + 5 * 67 + 50 * 28);
        s.state("addPlate 1 1").state("addPaper 1 1").state("print 1 1 0 0").state("tear 1 0 0");
    }

    private static void countOneStamp() {
        counts(Scenes.torn("Promise 17, count: one stamp, not mounted", 1, 1), 1, 1, 1, 1, 0, 0, 0, 0, 0, 1, 1, 0);
        counts(Scenes.torn("Promise 17, count: one stamp", 1, 1).make("mount 0 7 7"), 1, 1, 1, 1, 1, 0, 0, 1, 1, 1, 1, 10);
    }

    /** Mounts stamps that all fit where the picture, its rows parted by /, has a #; then the counts 5 to 8 are due. */
    private static void picture(String promise, String picture, int... want) {
        String[] rows = picture.split("/");
        Script s = Scenes.alike(promise, 40);
        int stamp = 0;
        for (int row = 0; row < rows.length; row++) {
            for (int column = 0; column < rows[row].length(); column++) {
                if (rows[row].charAt(column) == '#') {
                    s.make("mount " + stamp + " " + row + " " + column);
                    stamp++;
                }
            }
        }
        s.due("count 4", stamp);
        for (int k = 0; k < want.length; k++) {
            s.due("count " + (5 + k), want[k]);
        }
        s.due("count 11", 10 * stamp + 5 * want[0] + 50 * want[1]);
    }

    private static void countPairsAtTheRim() {
        picture(COUNTS_AT_THE_RIM, ".......#/#.......", 0, 0, 1, 1);
        picture(COUNTS_AT_THE_RIM, "#......#", 0, 0, 1, 1);
        picture(COUNTS_AT_THE_RIM, "#///////#", 0, 0, 1, 1);
        picture(COUNTS_AT_THE_RIM, "......##/##......", 2, 0, 2, 2);
        picture("Promise 17, count: pairs at the rim", "########///////########", 14, 0, 8, 8);
        picture("Promise 17, count: pairs at the rim",
            "#......#/#......#/#......#/#......#/#......#/#......#/#......#/#......#", 14, 0, 8, 8);
        picture("Promise 17, count: a corner is not a side", "#.#.#.#./.#.#.#.#/#.#.#.#.", 0, 0, 1, 1);
    }

    private static void countBlocksAtTheRim() {
        picture("Promise 17, count: blocks in the corners", "##....##/##....##/////##....##/##....##", 16, 4, 4, 4);
        picture(COUNTS_AT_THE_RIM + ", blocks", ".......#/#......#/#.......", 2, 0, 2, 2);
        picture(COUNTS_AT_THE_RIM + ", blocks", "#......#/#......#", 2, 0, 2, 2);
        picture(COUNTS_AT_THE_RIM + ", blocks", "##///////##", 2, 0, 2, 2);
        picture("Promise 17, count: three are no block", "##...##/#.....#//#....#/##..##", 8, 0, 3, 2);
        picture("Promise 17, count: blocks that share places", "###/###/###", 12, 4, 9, 9);
    }

    private static void countWhatHangsTogether() {
        picture("Promise 17, count: the largest is the first", "###.#/....#", 3, 0, 3, 3);
        picture("Promise 17, count: the largest is the last", "##.##.#./......##", 4, 0, 3, 2);
        picture("Promise 17, count: a long way round",
            "########/.......#/######.#/#....#.#/#.##.#.#/#..###.#/#......#/########", 38, 0, 39, 8);
        picture("Promise 17, count: not by a corner", "###/...###/......##", 5, 0, 3, 3);
    }

    private static void countRectangles() {
        picture("Promise 17, count: a rectangle of one place", "#", 0, 0, 1, 1);
        picture("Promise 17, count: not over the rim", ".....###/#####", 6, 0, 5, 5);
        picture("Promise 17, count: all taken but one", "#####/#####/##.##/#####/#####", 36, 12, 24, 10);
        picture("Promise 17, count: at the lowest corner", "###/////....####/....####/....####", 2 + 17, 6, 12, 12);
        picture("Promise 17, count: wide or high", "########/#/#/#/#/#/#/##", 15, 0, 16, 8);
    }

    private static void countGroupsOfOne() {
        Script s = Scenes.straight("Promise 17, count: a stamp alone is a group, too", 40);
        s.due("count 9", 40).due("count 10", 1).due("reunited", 0.0);
        s.make("forge 39 1 1", "forge 0 3 1022").due("count 9", 39).due("count 10", 2);
        s.make("forge 39 3 1022").due("count 9", 39).make("forge 1 3 1022").due("count 9", 38).due("count 10", 3);
    }

    private static void countTheLargestGroupAlone() {
        String promise = "Promise 17, count: the largest group, asked before the groups";
        new Script(promise).asks("count 10", 0);
        Scenes.straight(promise, 2).asks("count 10", 1).make("forge 0 1 1", "forge 1 3 1022").asks("count 10", 2)
            .make("forge 0 1 0").asks("count 10", 1);
        Scenes.alike(promise, 40).due("count 10", 40);
        Script s = Scenes.torn(promise, 2, 3).asks("count 10", 6).make("forge 1 1 0", "forge 4 1 0").asks("count 10", 4);
        s.make("mount 2 0 0").asks("count 10", 4).asks("count 9", 2);
    }

    private static void countOneGroupOfAll() {
        Script s = Scenes.alike("Promise 17, count: all in one group, mounted or not", 40).due("count 9", 1)
            .due("count 10", 40);
        s.make("mount 0 0 0", "mount 1 7 7").due("count 9", 1).due("count 10", 40);
        s = Scenes.torn("Promise 17, count: a chain of all, in one group", 5, 8);
        for (int stamp = 0; stamp < 40; stamp++) {
            s.make("forge " + stamp + " 0 0", "forge " + stamp + " 2 0");
        }
        s.due("count 9", 5).due("count 10", 8);
    }

    private static void countGroupsOverOthers() {
        Script s = Scenes.straight("Promise 17, count: groups hang together by any side", 6).due("count 9", 6);
        s.make("forge 0 0 5", "forge 5 2 1018").due("count 9", 5).due("count 10", 2);
        s.make("forge 1 1 6", "forge 4 3 1017").due("count 9", 4).due("count 10", 2);
        s.make("forge 2 0 7", "forge 3 2 1016").due("count 9", 3).due("count 10", 2);
        s.make("forge 4 0 8", "forge 5 0 8", "forge 2 2 1015").due("count 9", 1).due("count 10", 6);
        s.make("forge 2 2 0").due("count 9", 3).due("count 10", 2);
        s.make("forge 0 0 1023").due("count 9", 4).due("count 10", 2);
    }

    private static void countTheWorth() {
        Script s = Scenes.torn("Promise 17, count: what the album is worth", 2, 2);
        for (int kind = 0; kind < 5; kind++) {
            s.make("addFlaw 0 0 0 " + kind + " 0 1", "addFlaw 0 1 1 " + kind + " 1 1000");
        }
        s.asks("count 11", 0).make("mount 0 7 6").asks("count 11", 160).make("mount 3 0 0").asks("count 11", 170);
        s.make("mount 1 7 7").asks("count 11", 185).make("release 0").asks("count 11", 20)
            .make("release 1", "release 3").asks("count 11", 0);
        s.make("mount 0 6 6", "mount 1 6 7", "mount 2 7 6").asks("count 11", 180 + 10).make("mount 3 7 7")
            .asks("count 11", 190 + 20 + 50);
    }

    private static void reunitedOfNone() {
        new Script("Promise 18, reunited: 0 if there are none of these").asks("reunited", 0.0);
        Scenes.torn("Promise 18, reunited: 0 if there are none of these", 1, 1).asks("reunited", 0.0)
            .make("mount 0 0 0").asks("reunited", 0.0);
        Script s = Scenes.torn("Promise 18, reunited: 0 if there are none of these", 1, 2).asks("reunited", 0.0);
        s.make("forge 0 1 0", "mount 0 0 0", "mount 1 7 7").asks("reunited", 0.0);
        Scenes.torn("Promise 18, reunited: none is mounted", 2, 2).asks("reunited", 0.0)
            .make("mount 0 0 0", "mount 1 2 0").asks("reunited", 0.0);
    }

    private static void reunitedOfSomeAndOfAll() {
        Script s = Scenes.torn("Promise 18, reunited: some and all", 2, 2).make("mount 0 6 6", "mount 3 7 7")
            .asks("reunited", 0.0);
        s.make("mount 1 6 7").asks("reunited", 0.5).make("mount 2 7 6").asks("reunited", 1.0);
        s.make("release 0").asks("reunited", 0.5).make("forge 0 1 0").asks("reunited", 2.0 / 3.0);
        s.make("forge 0 2 1023").asks("reunited", 1.0);
    }

    private static void reunitedCountsEachPairOnce() {
        Script s = Scenes.alike("Promise 18, reunited: each pair once", 40).due("reunited", 0.0);
        s.make("mount 39 7 7", "mount 0 7 6").due("reunited", 1.0 / 780.0);
        s.make("mount 1 6 7").due("reunited", 2.0 / 780.0).make("mount 2 6 6").due("reunited", 4.0 / 780.0);
        Scenes.alike("Promise 18, reunited: each pair once", 2).make("mount 1 3 3", "mount 0 2 3").asks("reunited", 1.0);
    }

    private static void digestOfNothing() {
        BigInteger d = BigInteger.valueOf(547).multiply(BigInteger.valueOf(31).pow(12));
        new Script("Promise 19, digest: an empty bureau").asks("digest", d.longValue()).asks("digest", d.longValue());
    }

    private static BigInteger next(BigInteger d, String x) {
        return d.multiply(BigInteger.valueOf(31)).add(new BigInteger(x));
    }

    /** The checksum from what the calls answer, in numbers without an end, cut to 64 bits only at last. */
    private static void digestIsDue(Script s, int stamps, int origins) {
        BigInteger d = BigInteger.valueOf(547);
        for (int what = 0; what < 12; what++) {
            d = next(d, s.call("count " + what));
        }
        for (int stamp = 0; stamp < stamps; stamp++) {
            for (int what = 0; what < 11; what++) {
                d = next(d, s.call("stamp " + stamp + " " + what));
            }
            int found = 0;
            while (found <= origins && !s.call("origin " + stamp + " " + found).equals("-1")) {
                found++;
            }
            d = next(d, String.valueOf(found));
        }
        s.due("digest", d.longValue());
    }

    private static void digestWrapsAround() {
        digestIsDue(Scenes.sheet("Promise 19, digest: no stamps", 8, 8).make("addPlate 1 1"), 0, 0);
        digestIsDue(Scenes.torn("Promise 19, digest: one stamp without an origin", 1, 1).make("forge 0 0 1"), 1, 64);
        Script s = Scenes.torn("Promise 19, digest: stamps mounted and not", 3, 3).make("addPlate 8 8");
        s.make("addFlaw 0 0 0 4 0 " + HUGE, "addFlaw 0 1 1 2 0 1", "mount 0 7 7", "mount 1 0 0", "forge 2 0 1023");
        digestIsDue(s, 9, 64);
        s = Scenes.alike("Promise 19, digest: most of 40 stamps", 40);
        BigInteger d = BigInteger.valueOf(547);
        for (int x : new int[] {1, 1, 1, 40, 0, 0, 0, 0, 0, 1, 40, 0}) {
            d = next(d, String.valueOf(x));
        }
        for (int stamp = 0; stamp < 40; stamp++) {
            for (int x : new int[] {3, 3, 1020, 1020, 10, 10, 0, 0, 0, 10, -1, 3 * 6}) {
                d = next(d, String.valueOf(x));
            }
        }
        s.asks("digest", d.longValue());
    }
}
