import java.util.Arrays;
import java.util.Map;
import java.util.Random;
import java.util.TreeMap;

/** Runs of 512 calls, always the same ones: LitReach must answer each as SlowModel does, and never throw. */
public final class ModelTest {
    private static final int RUNS = 1500;
    private static final int CALLS = 512;
    private static final int[] FAR = {Integer.MIN_VALUE, Integer.MAX_VALUE, -2, -1, 30, 31, 32, 64, 1 << 16};
    private static final String[] BUILDING = {
        "thing", "put", "put", "put", "put", "put", "set", "set", "set", "set", "door", "turn", "turn"};
    private static final String[] ACTING = {"take", "take", "give", "give", "give", "drop", "go", "go"};
    private static final String[] TELLING = {
        "count", "told", "held", "space", "space", "loses", "loses", "sees", "sees", "barrier", "barrier", "scope", "hears"};
    /** Each of these must have come up often, or the runs would prove little. */
    private static final String[] COMMON = {
        "thing OUTSIDE", "thing ROOM", "put UNKNOWN", "put RING", "put ROOM", "set UNKNOWN", "set OUTSIDE",
        "door UNKNOWN", "door OUTSIDE", "door ROOM", "turn UNKNOWN", "turn OUTSIDE",
        "take UNKNOWN", "take RING", "take APART", "take BARRED", "take ROOM", "take 0", "take 1",
        "give UNKNOWN", "give RING", "give APART", "give BARRED", "give ROOM", "give 1",
        "drop UNKNOWN", "drop APART", "drop ROOM", "drop 1", "go UNKNOWN", "go APART", "go BARRED", "go 1",
        "count OUTSIDE", "told UNKNOWN", "told OUTSIDE", "held UNKNOWN", "held NONE", "space UNKNOWN", "space OUTSIDE",
        "space 1", "space 9", "loses UNKNOWN", "loses OUTSIDE", "loses NONE", "loses 1", "loses 6", "sees UNKNOWN",
        "sees 0", "sees 1", "barrier UNKNOWN", "barrier APART", "barrier NONE", "barrier 5", "scope UNKNOWN",
        "scope NONE", "scope 5", "hears UNKNOWN", "hears NONE", "hears 5"};
    private static final Map<Integer, String> NAMES = Map.of(
            -1, "NONE", -2, "UNKNOWN", -3, "OUTSIDE", -4, "RING", -5, "APART", -6, "BARRED", -7, "ROOM");

    private final Calls real = new Calls(LitReach.class);
    private final Calls slow = new Calls(SlowModel.class);
    private final Map<String, Integer> seen = new TreeMap<>();
    private int wrong = 0;
    /** In a crowded run few THINGS hold most of the others, so that they get full: those below this number. */
    private int holders = 0;

    public static void main(String[] args) {
        ModelTest test = new ModelTest();
        for (int seed = 0; seed < RUNS; seed++) {
            test.run(seed);
        }
        test.checkCommon();
        System.out.println(RUNS + " runs, " + test.wrong + " wrong");
        if (test.wrong != 0) {
            System.exit(1);
        }
    }

    private void run(int seed) {
        Random random = new Random(seed);
        LitReach object = new LitReach();
        SlowModel model = new SlowModel();
        int rooms = 1 + random.nextInt(5);
        int things = rooms + 3 + random.nextInt(23);
        holders = seed % 3 == 0 ? rooms + 3 : 0;
        boolean mixed = seed % 3 == 1;
        for (int i = 0; i < CALLS; i++) {
            String name = i < things ? "thing" : i < 2 * things ? "put" : pickName(random, i);
            int[] arguments = pickArguments(random, name, model);
            if (i < things) {
                arguments[0] = mixed ? random.nextInt(5) : orderedSort(random, i, rooms);
            } else if (i < 2 * things) {
                arguments[0] = i - things;
            }
            int want = slow.call(model, name, arguments);
            int got = real.call(object, name, arguments);
            seen.merge(name + " " + NAMES.getOrDefault(want, "" + want), 1, Integer::sum);
            if (got != want) {
                wrong++;
                System.out.println("run " + seed + ", call " + i + ": " + name + Arrays.toString(arguments)
                        + " answered " + got + ", due is " + want);
                return;
            }
        }
    }

    /** First the ROOMS, then a PERSON, a SHELF, a BOX, then all but ROOMS. */
    private static int orderedSort(Random random, int i, int rooms) {
        if (i < rooms) {
            return 0;
        }
        return i < rooms + 3 ? 3 - (i - rooms) : 1 + random.nextInt(4);
    }

    private static String pickName(Random random, int i) {
        if (random.nextInt(5000) == 0) {
            return "clear";
        }
        int dice = random.nextInt(10);
        int building = i < 100 ? 7 : 3;
        String[] names = dice < building ? BUILDING : dice < building + 1 + random.nextInt(2) ? ACTING : TELLING;
        return names[random.nextInt(names.length)];
    }

    private int[] pickArguments(Random random, String name, SlowModel model) {
        int[] arguments = new int[slow.parameters(name)];
        for (int i = 0; i < arguments.length; i++) {
            arguments[i] = pickNumber(random, name, i, model);
        }
        if (name.equals("set") && arguments[1] >= 2 && random.nextInt(4) > 0) {
            arguments[2] = random.nextInt(10);
        }
        if ((name.equals("put") || name.equals("give")) && holders > 0 && random.nextInt(4) > 0) {
            // The first of the last three is a PERSON, then a SHELF and a BOX.
            arguments[arguments.length - 1] = random.nextBoolean() ? holders - 3 : random.nextInt(holders);
        }
        if (name.equals("take") && holders > 0 && random.nextInt(2) == 0) {
            arguments[0] = holders - 3;
        }
        if ((name.equals("give") || name.equals("drop")) && random.nextInt(8) > 0) {
            pickFromHands(random, arguments, model);
        }
        return arguments;
    }

    /** Most THINGS are in no hands: one that is must be looked for. */
    private static void pickFromHands(Random random, int[] arguments, SlowModel model) {
        for (int tries = 0; tries < 20; tries++) {
            int x = random.nextInt(Math.max(1, model.count(0)));
            int holder = model.told(x, 1);
            if (model.told(holder, 0) == 3) {
                arguments[0] = holder;
                arguments[1] = x;
                return;
            }
        }
    }

    private static int pickNumber(Random random, String name, int position, SlowModel model) {
        if (random.nextInt(60) == 0) {
            return FAR[random.nextInt(FAR.length)];
        }
        boolean byPerson = "take give drop go sees barrier scope hears".contains(name) && position == 0;
        switch (name + " " + position) {
            case "thing 0":
                return random.nextInt(12) == 0 ? 5 : random.nextInt(5);
            case "count 0":
            case "space 1":
            case "loses 2":
                return random.nextInt(random.nextInt(6) == 0 ? 3 : 2);
            case "set 1":
                return random.nextInt(random.nextInt(8) == 0 ? 5 : 4);
            case "set 2":
            case "turn 1":
            case "turn 2":
                return random.nextInt(random.nextInt(8) == 0 ? 3 : 2);
            case "told 1":
                return random.nextInt(10);
            case "held 1":
            case "scope 1":
                return random.nextInt(8);
            case "turn 0":
            case "go 1":
                return random.nextInt(1 + Math.max(1, model.count(1)));
            case "door 0":
            case "door 1":
                return pickOfSorts(random, model, 0, 0);
            case "space 0":
            case "loses 0":
            case "loses 1":
                return pickOfSorts(random, model, 0, 1);
            case "put 0":
            case "take 1":
            case "set 0":
                return pickOfSorts(random, model, 1, 4);
            case "put 1":
                return pickOfSorts(random, model, 0, 3);
            case "give 2":
                return pickOfSorts(random, model, 1, 3);
            default:
                return byPerson ? pickOfSorts(random, model, 3, 3) : random.nextInt(1 + Math.max(1, model.count(0)));
        }
    }

    /** A THING with a SORT in these bounds, most times. */
    private static int pickOfSorts(Random random, SlowModel model, int least, int most) {
        int x = 0;
        for (int tries = 0; tries < 12; tries++) {
            x = random.nextInt(1 + Math.max(1, model.count(0)));
            int sort = model.told(x, 0);
            if (sort >= least && sort <= most) {
                return x;
            }
        }
        return x;
    }

    private void checkCommon() {
        for (String answer : COMMON) {
            if (seen.getOrDefault(answer, 0) < 20) {
                wrong++;
                System.out.println("too seldom: " + answer + ", " + seen.getOrDefault(answer, 0));
            }
        }
    }
}
