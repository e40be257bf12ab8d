import java.util.Random;
import java.util.Set;
import java.util.TreeSet;

/** Random runs of calls, from fixed seeds, held against PlainBureau: promises 1 to 19 together. */
public final class RandomRunsTest {
    private static final int RUNS = 300;
    private static final int CALLS = 500;
    private static final String[] NAMES = {"addPlate", "addFlaw", "addPaper", "print", "setSheet", "tear", "forge",
        "stamp", "fits", "fitting", "origin", "mount", "release", "at", "advise", "count", "reunited", "digest"};
    private static final int[] WEIGHTS = {2, 4, 2, 4, 4, 16, 8, 6, 6, 6, 6, 16, 4, 3, 6, 12, 2, 1};
    private static final int[] WRONG = {-1, 4, 5, 6, 8, 9, 10, 11, 12, 16, 17, 40, 64, 999, 1000, 9999, 10000,
        65535, 65536, Integer.MAX_VALUE, Integer.MIN_VALUE};

    private final Random random;
    private final StampBureau bureau = new StampBureau();
    private final PlainBureau plain = new PlainBureau();
    private final int most;
    private final int seeds;
    private final int wrongOfHundred;
    private static final Set<String> seen = new TreeSet<>();

    private RandomRunsTest(int seed) {
        random = new Random(seed);
        most = 1 + random.nextInt(8);
        seeds = random.nextBoolean() ? 1 : 3;
        wrongOfHundred = random.nextInt(12);
    }

    public static void main(String[] args) {
        for (int seed = 0; seed < RUNS; seed++) {
            new RandomRunsTest(seed).run(seed);
        }
        for (String name : NAMES) {
            Checks.due(name + " was answered in some run", true, seen.contains(name));
        }
        Checks.due("some runs mount blocks of four", true, seen.contains("block"));
        Checks.due("some runs fill the stamps", true, seen.contains("40 stamps"));
        Checks.end();
    }

    private void run(int seed) {
        for (int call = 0; call < CALLS; call++) {
            int kind = call < 6 ? new int[] {0, 2, 3, 3, 4, 5}[call] : call == CALLS - 1 ? 17 : anyKind();
            int[] args = arguments(kind);
            StringBuilder told = new StringBuilder("run " + seed + ", call " + call + ": " + NAMES[kind]);
            for (int arg : args) {
                told.append(' ').append(arg);
            }
            String want = Checks.outcome(() -> plainAnswer(kind, args));
            String got = Checks.outcome(() -> bureauAnswer(kind, args));
            Checks.due(told.toString(), want, got);
            if (!want.startsWith("throws")) {
                seen.add(NAMES[kind]);
            }
        }
        if (plain.count(6) > 0) {
            seen.add("block");
        }
        if (plain.count(3) == 40) {
            seen.add("40 stamps");
        }
    }

    private int anyKind() {
        int all = 0;
        for (int weight : WEIGHTS) {
            all += weight;
        }
        int left = random.nextInt(all);
        int kind = 0;
        while (left >= WEIGHTS[kind]) {
            left -= WEIGHTS[kind];
            kind++;
        }
        return kind;
    }

    private int upTo(int bound) {
        return random.nextInt(Math.max(1, bound));
    }

    private int[] arguments(int kind) {
        int[] args = rightArguments(kind);
        if (args.length > 0 && random.nextInt(100) < wrongOfHundred) {
            args[random.nextInt(args.length)] = WRONG[random.nextInt(WRONG.length)];
        }
        return args;
    }

    private int[] rightArguments(int kind) {
        int stamp = upTo(plain.count(3));
        switch (kind) {
            case 0: return new int[] {1 + upTo(most), 1 + upTo(most)};
            case 1: return flaw();
            case 2: return new int[] {1 + upTo(Math.min(4, most)), 1 + upTo(Math.min(4, most))};
            case 3: return new int[] {upTo(plain.count(0)), upTo(plain.count(1)), upTo(1000), upTo(seeds)};
            case 4: return new int[] {upTo(plain.count(2)), upTo(4), upTo(4), 9 + upTo(2), 9 + upTo(2)};
            case 5: return new int[] {upTo(plain.count(2)), upTo(most), upTo(most)};
            case 6: return forged(stamp);
            case 7: return new int[] {stamp, upTo(11)};
            case 8: return new int[] {stamp, upTo(4), upTo(plain.count(3))};
            case 9: return new int[] {stamp, upTo(4), upTo(3)};
            case 10: return new int[] {stamp, upTo(5)};
            case 11: return mounted(stamp);
            case 12: case 14: return new int[] {stamp};
            case 13: return new int[] {upTo(8), upTo(8)};
            case 15: return new int[] {upTo(12)};
            default: return new int[0];
        }
    }

    private int[] flaw() {
        int from = random.nextInt(4) == 0 ? 0 : upTo(1002);
        return new int[] {upTo(plain.count(0)), upTo(most), upTo(most), upTo(5), from, from + upTo(500)};
    }

    /** Mostly just the teeth that some other stamp has not, so that more stamps fit than were neighbours. */
    private int[] forged(int stamp) {
        int side = upTo(4);
        int teeth = upTo(512);
        if (plain.count(3) > 0 && random.nextInt(4) > 0) {
            int all = (1 << plain.stamp(stamp, 4 + side % 2)) - 1;
            teeth = all - plain.stamp(upTo(plain.count(3)), (side + 2) % 4);
        }
        return new int[] {stamp, side, teeth};
    }

    private int[] mounted(int stamp) {
        String advised = Checks.outcome(() -> plain.advise(stamp));
        if (random.nextInt(8) > 0 && !advised.startsWith("throws") && !advised.equals("-1")) {
            int place = Integer.parseInt(advised);
            return new int[] {stamp, place / 8, place % 8};
        }
        return new int[] {stamp, upTo(8), upTo(8)};
    }

    private long plainAnswer(int kind, int[] a) {
        switch (kind) {
            case 0: return plain.addPlate(a[0], a[1]);
            case 1: return plain.addFlaw(a[0], a[1], a[2], a[3], a[4], a[5]);
            case 2: return plain.addPaper(a[0], a[1]);
            case 3: return plain.print(a[0], a[1], a[2], a[3]);
            case 4: return plain.setSheet(a[0], a[1], a[2], a[3], a[4]);
            case 5: return plain.tear(a[0], a[1], a[2]);
            case 6: return plain.forge(a[0], a[1], a[2]);
            case 7: return plain.stamp(a[0], a[1]);
            case 8: return plain.fits(a[0], a[1], a[2]) ? 1 : 0;
            case 9: return plain.fitting(a[0], a[1], a[2]);
            case 10: return plain.origin(a[0], a[1]);
            case 11: return plain.mount(a[0], a[1], a[2]);
            case 12: return plain.release(a[0]);
            case 13: return plain.at(a[0], a[1]);
            case 14: return plain.advise(a[0]);
            case 15: return plain.count(a[0]);
            case 16: return Double.doubleToLongBits(plain.reunited());
            default: return plain.digest();
        }
    }

    private long bureauAnswer(int kind, int[] a) {
        switch (kind) {
            case 0: return bureau.addPlate(a[0], a[1]);
            case 1: return bureau.addFlaw(a[0], a[1], a[2], a[3], a[4], a[5]);
            case 2: return bureau.addPaper(a[0], a[1]);
            case 3: return bureau.print(a[0], a[1], a[2], a[3]);
            case 4: return bureau.setSheet(a[0], a[1], a[2], a[3], a[4]);
            case 5: return bureau.tear(a[0], a[1], a[2]);
            case 6: return bureau.forge(a[0], a[1], a[2]);
            case 7: return bureau.stamp(a[0], a[1]);
            case 8: return bureau.fits(a[0], a[1], a[2]) ? 1 : 0;
            case 9: return bureau.fitting(a[0], a[1], a[2]);
            case 10: return bureau.origin(a[0], a[1]);
            case 11: return bureau.mount(a[0], a[1], a[2]);
            case 12: return bureau.release(a[0]);
            case 13: return bureau.at(a[0], a[1]);
            case 14: return bureau.advise(a[0]);
            case 15: return bureau.count(a[0]);
            case 16: return Double.doubleToLongBits(bureau.reunited());
            default: return bureau.digest();
        }
    }
}
