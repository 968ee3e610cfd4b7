import java.util.Map;
import java.util.regex.Matcher;
import java.util.regex.Pattern;

/** Runs of calls on new objects, written as texts: "put(1, 0) = NONE". Several stand in one text, behind ';'. */
final class Runs {
    private static final Pattern CALL = Pattern.compile("(\\w+)\\(([^)]*)\\)\\s*=\\s*(\\S+)");
    /** The document's numbers, written out: a wrong constant in the class must not hide itself. */
    private static final Map<String, Integer> NAMES = Map.of(
            "NONE", -1, "UNKNOWN", -2, "OUTSIDE", -3, "RING", -4, "APART", -5, "BARRED", -6, "ROOM", -7,
            "MIN", Integer.MIN_VALUE, "MAX", Integer.MAX_VALUE);

    private final Calls calls = new Calls(LitReach.class);
    private int wrong = 0;
    private int made = 0;

    void run(String title, String... texts) {
        LitReach object = new LitReach();
        for (String text : texts) {
            for (String one : text.split(";")) {
                if (!one.isBlank()) {
                    check(object, title, one.trim());
                }
            }
        }
    }

    /** n LUMPS from a number on, put into a holder. */
    static String lumpsIn(int holder, int first, int n) {
        StringBuilder text = new StringBuilder();
        for (int x = first; x < first + n; x++) {
            text.append("thing(4) = ").append(x);
            text.append("; put(").append(x).append(", ").append(holder).append(") = NONE;");
        }
        return text.toString();
    }

    private void check(LitReach object, String title, String text) {
        Matcher matcher = CALL.matcher(text);
        if (!matcher.matches()) {
            throw new IllegalArgumentException("not a call: " + text);
        }
        String list = matcher.group(2).trim();
        String[] words = list.isEmpty() ? new String[0] : list.split("\\s*,\\s*");
        int[] arguments = new int[words.length];
        for (int i = 0; i < words.length; i++) {
            arguments[i] = number(words[i]);
        }
        int got = calls.call(object, matcher.group(1), arguments);
        made++;
        if (got != number(matcher.group(3))) {
            wrong++;
            System.out.println(title + ": " + text + " is due, the answer was " + got);
        }
    }

    private static int number(String word) {
        Integer named = NAMES.get(word);
        return named != null ? named : Integer.parseInt(word);
    }

    void end() {
        System.out.println(made + " calls, " + wrong + " wrong");
        if (wrong != 0) {
            System.exit(1);
        }
    }
}
