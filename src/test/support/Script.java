import java.util.ArrayList;
import java.util.List;

/**
 * A run of calls on a new bureau, each told as a text like "addPlate 3 4". After a refused call it
 * is looked whether anything has changed: two new bureaus get the calls that were answered so far,
 * one of them the refused one, too; then both have to answer alike whatever they are asked and
 * however they are gone on with.
 */
final class Script {
    static final int MOST_CALLS = 512;
    private static final int LOOKS_AT_FITTING = 3;

    private final String promise;
    private final StampBureau bureau = new StampBureau();
    private final List<String> answered = new ArrayList<>();
    private int calls = 0;

    Script(String promise) {
        this.promise = promise;
    }

    /** Calls that have to be answered, whatever with. */
    Script make(String... made) {
        for (String call : made) {
            String got = call(call);
            Checks.due(promise + ": " + call + " is answered", false, got.startsWith("throws."));
            answered.add(call);
        }
        return this;
    }

    Script due(String call, Object want) {
        Checks.due(promise + ": " + call, String.valueOf(want), call(call));
        answered.add(call);
        return this;
    }

    /** A question: the answer is due, and nothing may have changed. */
    Script asks(String call, Object want) {
        Checks.due(promise + ": " + call, String.valueOf(want), call(call));
        nothingChangedBy(call);
        return this;
    }

    Script index(String call) {
        return refused(call, "throws.IndexOutOfBoundsException");
    }

    Script argument(String call) {
        return refused(call, "throws.IllegalArgumentException");
    }

    Script state(String call) {
        return refused(call, "throws.IllegalStateException");
    }

    /** The call is refused with each of these numbers in the place of its "?". */
    Script index(String call, int[] wrong) {
        for (int number : wrong) {
            index(call.replace("?", String.valueOf(number)));
        }
        return this;
    }

    Script argument(String call, int[] wrong) {
        for (int number : wrong) {
            argument(call.replace("?", String.valueOf(number)));
        }
        return this;
    }

    /** The numbers next to those that are allowed, and those that are furthest from them. */
    static int[] outside(int least, int most) {
        return new int[] {least - 1, most + 1, Integer.MIN_VALUE, Integer.MAX_VALUE};
    }

    String call(String call) {
        calls++;
        if (calls > MOST_CALLS) {
            throw new IllegalStateException("the test makes too many calls: " + promise);
        }
        return answer(bureau, call);
    }

    int calls() {
        return calls;
    }

    private Script refused(String call, String want) {
        Checks.due(promise + ": " + call, want, call(call));
        nothingChangedBy(call);
        return this;
    }

    private void nothingChangedBy(String call) {
        String difference = "";
        for (List<String> after : afterwards()) {
            StampBureau with = again();
            StampBureau without = again();
            answer(with, call);
            for (String next : after) {
                String got = answer(with, next);
                String want = answer(without, next);
                if (difference.isEmpty() && !got.equals(want)) {
                    difference = next + " answered " + got + " instead of " + want;
                }
            }
        }
        Checks.due(promise + ": changed by " + call, "", difference);
    }

    private StampBureau again() {
        StampBureau again = new StampBureau();
        for (String call : answered) {
            answer(again, call);
        }
        return again;
    }

    /** Runs of calls that find out what a bureau holds; none takes it beyond the calls that are promised. */
    private List<List<String>> afterwards() {
        StampBureau scratch = again();
        int plates = scratch.count(0);
        int sheets = scratch.count(2);
        int stamps = scratch.count(3);
        List<List<String>> all = cut(looks(stamps), MOST_CALLS - answered.size() - 1);
        all.add(fillUp());
        all.add(setUp(sheets));
        all.add(addFlaws(plates, stamps));
        all.add(mountAnew(stamps));
        for (List<String> run : all) {
            if (answered.size() + 1 + run.size() > MOST_CALLS) {
                throw new IllegalStateException("the test looks too long: " + promise);
            }
        }
        return all;
    }

    private static List<List<String>> cut(List<String> looks, int most) {
        List<List<String>> pieces = new ArrayList<>();
        for (int from = 0; from < looks.size(); from += most) {
            pieces.add(looks.subList(from, Math.min(from + most, looks.size())));
        }
        return pieces;
    }

    private static List<String> looks(int stamps) {
        List<String> looks = new ArrayList<>(List.of("reunited", "digest"));
        for (int what = 0; what < 12; what++) {
            looks.add("count " + what);
        }
        for (int place = 0; place < 64; place++) {
            looks.add("at " + place / 8 + " " + place % 8);
        }
        for (int stamp = 0; stamp < stamps; stamp++) {
            looks.add("advise " + stamp);
            for (int what = 0; what < 11; what++) {
                looks.add("stamp " + stamp + " " + what);
            }
            for (int index = 0; index < LOOKS_AT_FITTING; index++) {
                looks.add("origin " + stamp + " " + index);
                for (int side = 0; side < 4; side++) {
                    looks.add("fitting " + stamp + " " + side + " " + index);
                }
            }
        }
        return looks;
    }

    private static List<String> fillUp() {
        List<String> run = new ArrayList<>();
        for (int k = 0; k < 7; k++) {
            run.add("addPlate 2 3");
            run.add("addPaper 2 3");
        }
        for (int k = 0; k < 11; k++) {
            run.add("print " + k % 6 + " " + k % 4 + " 1 1");
        }
        for (int k = 0; k < 70; k++) {
            run.add("tear " + k % 10 + " " + k / 10 % 2 + " " + k / 20);
        }
        run.add("digest");
        return run;
    }

    private static List<String> setUp(int sheets) {
        List<String> run = new ArrayList<>();
        for (int sheet = 0; sheet < sheets; sheet++) {
            run.add("tear " + sheet + " 1 1");
            run.add("stamp " + sheet + " 7");
            run.add("setSheet " + sheet + " 1 2 7 9");
            run.add("tear " + sheet + " 0 1");
            run.add("tear " + sheet + " 0 0");
        }
        run.add("digest");
        return run;
    }

    private static List<String> addFlaws(int plates, int stamps) {
        List<String> run = new ArrayList<>();
        for (int plate = 0; plate < plates; plate++) {
            for (int k = 0; k < 11; k++) {
                run.add("addFlaw " + plate + " 0 0 " + k % 5 + " " + k + " 1000");
            }
        }
        for (int stamp = 0; stamp < stamps; stamp++) {
            run.add("stamp " + stamp + " 8");
        }
        run.add("digest");
        return run;
    }

    private static List<String> mountAnew(int stamps) {
        List<String> run = new ArrayList<>();
        for (int stamp = 0; stamp < stamps; stamp++) {
            run.add("release " + stamp);
            run.add("forge " + stamp + " " + stamp % 4 + " " + (stamp + 1));
            run.add("mount " + stamp + " " + stamp * 3 / 8 % 8 + " " + stamp * 3 % 8);
        }
        for (int what = 4; what < 12; what++) {
            run.add("count " + what);
        }
        run.add("digest");
        return run;
    }

    /** What a call answers as a text, or the exact class of what it throws. */
    static String answer(StampBureau x, String call) {
        String[] words = call.split(" ");
        int[] a = new int[words.length - 1];
        for (int k = 0; k < a.length; k++) {
            a[k] = Integer.parseInt(words[k + 1]);
        }
        try {
            return String.valueOf(make(x, words[0], a));
        } catch (RuntimeException thrown) {
            return "throws." + thrown.getClass().getSimpleName();
        }
    }

    private static Object make(StampBureau x, String name, int[] a) {
        switch (name) {
            case "addPlate": return x.addPlate(a[0], a[1]);
            case "addFlaw": return x.addFlaw(a[0], a[1], a[2], a[3], a[4], a[5]);
            case "addPaper": return x.addPaper(a[0], a[1]);
            case "print": return x.print(a[0], a[1], a[2], a[3]);
            case "setSheet": return x.setSheet(a[0], a[1], a[2], a[3], a[4]);
            case "tear": return x.tear(a[0], a[1], a[2]);
            case "forge": return x.forge(a[0], a[1], a[2]);
            case "stamp": return x.stamp(a[0], a[1]);
            case "fits": return x.fits(a[0], a[1], a[2]);
            case "fitting": return x.fitting(a[0], a[1], a[2]);
            case "origin": return x.origin(a[0], a[1]);
            case "mount": return x.mount(a[0], a[1], a[2]);
            case "release": return x.release(a[0]);
            case "at": return x.at(a[0], a[1]);
            case "advise": return x.advise(a[0]);
            case "count": return x.count(a[0]);
            case "reunited": return x.reunited();
            case "digest": return x.digest();
            default: throw new AssertionError("no such call: " + name);
        }
    }
}
