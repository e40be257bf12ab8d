/** Bureaus that several tests begin with. */
final class Scenes {
    private Scenes() {
    }

    /** One sheet of one plate, nothing torn. */
    static Script sheet(String promise, int rows, int columns) {
        return new Script(promise).make("addPlate " + rows + " " + columns, "addPaper 1 1", "print 0 0 0 4321");
    }

    /** One sheet torn wholly, row by row; only neighbours fit each other. */
    static Script torn(String promise, int rows, int columns) {
        Script s = sheet(promise, rows, columns);
        for (int place = 0; place < rows * columns; place++) {
            s.make("tear 0 " + place / columns + " " + place % columns);
        }
        return s;
    }

    /** Stamps of a large plate that all fit each other at each side. */
    static Script alike(String promise, int stamps) {
        Script s = sheet(promise, 5, 8);
        for (int stamp = 0; stamp < stamps; stamp++) {
            s.make("tear 0 " + stamp / 8 + " " + stamp % 8);
            fitAll(s, stamp);
        }
        return s;
    }

    /** Forges the sides of a stamp, of the gauges 10, so that all that are forged so fit by their teeth. */
    static void fitAll(Script s, int stamp) {
        for (int side = 0; side < 4; side++) {
            s.make("forge " + stamp + " " + side + " " + (side < 2 ? 3 : 1020));
        }
    }

    /** Stamps with four straight sides: none fits any other. */
    static Script straight(String promise, int stamps) {
        Script s = sheet(promise, 5, 8);
        for (int stamp = 0; stamp < stamps; stamp++) {
            s.make("tear 0 " + stamp / 8 + " " + stamp % 8);
            for (int side = 0; side < 4; side++) {
                s.make("forge " + stamp + " " + side + " 0");
            }
        }
        return s;
    }
}
