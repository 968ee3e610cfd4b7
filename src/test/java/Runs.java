import java.util.Map;
import java.util.regex.Matcher;
import java.util.regex.Pattern;

/** Runs of calls on new objects, written as texts: "put(1, 0) = NONE". Several stand in one text, behind ';'. */
final class Runs {
    private static final Pattern CALL = Pattern.compile("(\\w+)\\(([^)]*)\\)\\s*=\\s*(\\S+)");
    /** The document's numbers, written out: a wrong constant in the class must not hide itself. */
    private static final Map<String, Integer> NAMES = Map.of(
            "NONE", -1, "UNKNOWN", -2, "OUTSIDE", -3, "RING", -4, "APART", -5, "BARRED", -6, "ROOM", -7,
            "MIN", Integer.MIN_VALUE, "MAX", Integer.MAX_VALUE);

    private final Calls calls = new Calls(LitReach.class);
    private int wrong = 0;
    private int made = 0;

    void run(String title, String... texts) {
        runOn(new LitReach(), title, texts);
    }

    private void runOn(LitReach object, String title, String... texts) {
        for (String text : texts) {
            for (String one : text.split(";")) {
                if (!one.isBlank()) {
                    check(object, title, one.trim());
                }
            }
        }
    }

    /** Each of the calls on an object of its own, which must be the same afterwards as one without that call. */
    void changeNothing(String title, String setup, String... texts) {
        String due = stateAfter(title, setup);
        for (String text : texts) {
            for (String one : text.split(";")) {
                if (!one.isBlank() && !stateAfter(title, setup, one).equals(due)) {
                    wrong++;
                    System.out.println(title + ": " + one.trim() + " has changed something");
                }
            }
        }
    }

    /** All that can be told of an object. To ask for the marks of DOORS is to turn them: it is of no use later. */
    private String stateAfter(String title, String... texts) {
        LitReach object = new LitReach();
        runOn(object, title, texts);
        StringBuilder state = new StringBuilder();
        int things = object.count(0);
        for (int x = 0; x < things; x++) {
            for (int what : new int[] {0, 1, 5, 6, 7, 8}) {
                state.append(object.told(x, what)).append(' ');
            }
            for (int y = 0; y < x && object.told(x, 0) == 0 && object.told(y, 0) == 0; y++) {
                state.append(object.loses(x, y, 0)).append(object.loses(x, y, 1)).append(' ');
            }
        }
        for (int door = 0; door < object.count(1); door++) {
            state.append('/').append(object.turn(door, 0, 0)).append(object.turn(door, 1, 0));
        }
        return state.toString();
    }

    /** The text once for each of the words, in the place of its '?'. */
    static String each(String text, String... words) {
        StringBuilder all = new StringBuilder();
        for (String word : words) {
            all.append(text.replace("?", word)).append(';');
        }
        return all.toString();
    }

    /** The same for each number from the first to the last. */
    static String eachFrom(String text, int first, int last) {
        StringBuilder all = new StringBuilder();
        for (int number = first; number <= last; number++) {
            all.append(each(text, Integer.toString(number)));
        }
        return all.toString();
    }

    /** n LUMPS from a number on, put into a holder. */
    static String lumpsIn(int holder, int first, int n) {
        StringBuilder text = new StringBuilder();
        for (int x = first; x < first + n; x++) {
            text.append("thing(4) = ").append(x);
            text.append("; put(").append(x).append(", ").append(holder).append(") = NONE;");
        }
        return text.toString();
    }

    private void check(LitReach object, String title, String text) {
        Matcher matcher = CALL.matcher(text);
        if (!matcher.matches()) {
            throw new IllegalArgumentException("not a call: " + text);
        }
        String list = matcher.group(2).trim();
        String[] words = list.isEmpty() ? new String[0] : list.split("\\s*,\\s*");
        int[] arguments = new int[words.length];
        for (int i = 0; i < words.length; i++) {
            arguments[i] = number(words[i]);
        }
        int got = calls.call(object, matcher.group(1), arguments);
        made++;
        if (got != number(matcher.group(3))) {
            wrong++;
            System.out.println(title + ": " + text + " is due, the answer was " + got);
        }
    }

    private static int number(String word) {
        Integer named = NAMES.get(word);
        return named != null ? named : Integer.parseInt(word);
    }

    void end() {
        System.out.println(made + " calls, " + wrong + " wrong");
        if (wrong != 0) {
            System.exit(1);
        }
    }
}
