/** Promises 1 to 7: what there is, and how it is set up. */
public final class BuildTest {
    private static final Runs RUNS = new Runs();

    public static void main(String[] args) {
        promise1NewObject();
        promise2Thing();
        promise3Clear();
        promise4Put();
        promise4PutFull();
        promise5Set();
        promise6Door();
        promise7Turn();
        RUNS.end();
    }

    private static void promise1NewObject() {
        RUNS.run("1 a new object is empty",
                "count(0) = 0; count(1) = 0; told(0, 0) = UNKNOWN; turn(0, 0, 0) = UNKNOWN; clear() = 0");
        RUNS.run("1 the first of another object", "thing(4) = 0");
    }

    private static void promise2Thing() {
        RUNS.run("2 numbers and sorts",
                "thing(0) = 0; thing(1) = 1; thing(2) = 2; thing(3) = 3; thing(4) = 4; count(0) = 5",
                "told(0, 0) = 0; told(1, 0) = 1; told(2, 0) = 2; told(3, 0) = 3; told(4, 0) = 4");
        RUNS.run("2 as it is at first",
                "thing(1) = 0; told(0, 1) = NONE; told(0, 2) = NONE; told(0, 3) = 0; told(0, 4) = 0",
                "told(0, 5) = 0; told(0, 6) = 0; told(0, 7) = 0; told(0, 8) = 0");
        RUNS.run("2 outside", "thing(-1) = OUTSIDE; thing(5) = OUTSIDE; thing(MIN) = OUTSIDE; thing(MAX) = OUTSIDE",
                "count(0) = 0");
        RUNS.run("2 thirty, and outside ahead of room", "thing(4) = 0;".concat(things(1, 29)),
                "thing(4) = 29; thing(4) = ROOM; thing(5) = OUTSIDE; count(0) = 30; told(29, 0) = 4");
    }

    private static String things(int first, int behindLast) {
        StringBuilder text = new StringBuilder();
        for (int x = first; x < behindLast; x++) {
            text.append("thing(4) = ").append(x).append(';');
        }
        return text.toString();
    }

    private static void promise3Clear() {
        RUNS.run("3 nothing is left of what was",
                "thing(0) = 0; thing(0) = 1; thing(1) = 2; put(2, 0) = NONE; door(0, 1) = 0",
                "set(2, 0, 1) = 0; set(2, 1, 1) = 0; set(2, 2, 7) = 0; set(2, 3, 8) = 0",
                "turn(0, 0, 1) = 0; turn(0, 1, 1) = 0",
                "clear() = 3; count(0) = 0; count(1) = 0; told(0, 0) = UNKNOWN; turn(0, 0, 0) = UNKNOWN; clear() = 0",
                "thing(0) = 0; thing(0) = 1; thing(1) = 2; told(2, 1) = NONE; told(0, 3) = 0",
                "told(2, 5) = 0; told(2, 6) = 0; told(2, 7) = 0; told(2, 8) = 0",
                "door(1, 0) = 0; turn(0, 0, 0) = 0; turn(0, 1, 0) = 0");
        RUNS.run("3 there is room again", things(0, 30), "thing(0) = ROOM; clear() = 30; thing(0) = 0");
    }

    private static void promise4Put() {
        String some = "thing(0) = 0; thing(1) = 1; thing(2) = 2; thing(3) = 3; thing(4) = 4;";
        RUNS.run("4 the holder that it had", some,
                "put(4, 0) = NONE; put(4, 1) = 0; put(4, 2) = 1; put(4, 3) = 2; put(4, 3) = 3; put(4, -1) = 3",
                "put(4, -1) = NONE; told(4, 1) = NONE; put(4, 2) = NONE; told(4, 1) = 2");
        RUNS.run("4 unknown", some,
                "put(5, 0) = UNKNOWN; put(-1, 0) = UNKNOWN; put(MIN, 0) = UNKNOWN; put(MAX, -1) = UNKNOWN",
                "put(0, 1) = UNKNOWN; put(0, -1) = UNKNOWN; put(0, 0) = UNKNOWN; put(1, 4) = UNKNOWN",
                "put(4, 4) = UNKNOWN; put(1, 5) = UNKNOWN; put(1, -2) = UNKNOWN; put(1, MIN) = UNKNOWN",
                "put(1, MAX) = UNKNOWN; told(1, 1) = NONE; told(4, 1) = NONE");
        RUNS.run("4 ring", some,
                "put(1, 1) = RING; put(2, 1) = NONE; put(3, 2) = NONE; put(1, 3) = RING; put(1, 2) = RING",
                "put(2, 3) = RING; told(1, 1) = NONE; put(3, 1) = 2; put(2, 3) = 1");
        RUNS.run("4 whatever bars it", some,
                "put(1, 0) = NONE; put(4, 1) = NONE; put(4, 3) = 1; put(4, 1) = 3; told(1, 5) = 0");
    }

    private static void promise4PutFull() {
        RUNS.run("4 eight at most", "thing(0) = 0; thing(1) = 1; thing(2) = 2", Runs.lumpsIn(1, 3, 8),
                "thing(4) = 11; put(11, 1) = ROOM; told(11, 1) = NONE; told(1, 3) = 8",
                "put(3, 1) = 1; put(2, 1) = ROOM; put(3, 2) = 1; put(11, 1) = NONE",
                "put(3, 1) = ROOM; told(3, 1) = 2");
        RUNS.run("4 unknown and ring ahead of room", "thing(1) = 0; thing(2) = 1; put(1, 0) = NONE", Runs.lumpsIn(1, 2, 8),
                "put(0, 1) = RING; put(10, 1) = UNKNOWN; thing(0) = 10; put(10, 1) = UNKNOWN; put(10, 0) = UNKNOWN");
        RUNS.run("4 a room has any number", "thing(0) = 0", Runs.lumpsIn(0, 1, 29), "told(0, 3) = 29");
        RUNS.run("4 a person has eight", "thing(3) = 0", Runs.lumpsIn(0, 1, 8), "thing(4) = 9; put(9, 0) = ROOM");
        RUNS.run("4 a shelf has eight", "thing(2) = 0", Runs.lumpsIn(0, 1, 8), "thing(4) = 9; put(9, 0) = ROOM");
    }

    private static void promise5Set() {
        RUNS.run("5 what it was", "thing(1) = 0",
                "set(0, 0, 1) = 0; set(0, 0, 1) = 1; told(0, 5) = 1; set(0, 0, 0) = 1; told(0, 5) = 0",
                "set(0, 1, 1) = 0; set(0, 1, 0) = 1; set(0, 1, 1) = 0; told(0, 6) = 1; told(0, 5) = 0",
                "set(0, 2, 9) = 0; set(0, 2, 4) = 9; told(0, 7) = 4; told(0, 8) = 0",
                "set(0, 3, 9) = 0; set(0, 3, 5) = 9; told(0, 8) = 5; told(0, 7) = 4; told(0, 6) = 1");
        RUNS.run("5 light and sound of every sort",
                "thing(0) = 0; thing(1) = 1; thing(2) = 2; thing(3) = 3; thing(4) = 4",
                "set(0, 2, 1) = 0; set(1, 2, 2) = 0; set(2, 2, 3) = 0; set(3, 2, 4) = 0; set(4, 2, 5) = 0",
                "set(0, 3, 9) = 0; set(1, 3, 8) = 0; set(2, 3, 7) = 0; set(3, 3, 6) = 0; set(4, 3, 0) = 0",
                "told(0, 7) = 1; told(1, 7) = 2; told(2, 7) = 3; told(3, 7) = 4; told(4, 7) = 5; told(3, 8) = 6");
        RUNS.run("5 unknown, ahead of outside",
                "thing(0) = 0; thing(1) = 1; thing(2) = 2; thing(3) = 3; thing(4) = 4",
                "set(0, 0, 1) = UNKNOWN; set(2, 0, 1) = UNKNOWN; set(3, 0, 0) = UNKNOWN; set(4, 0, 0) = UNKNOWN",
                "set(0, 1, 1) = UNKNOWN; set(2, 1, 1) = UNKNOWN; set(3, 1, 2) = UNKNOWN; set(4, 1, -1) = UNKNOWN",
                "set(5, 2, 0) = UNKNOWN; set(-1, 2, 0) = UNKNOWN; set(5, 9, 99) = UNKNOWN; set(MAX, 0, 0) = UNKNOWN",
                "set(MIN, 3, 3) = UNKNOWN; set(0, 4, 0) = OUTSIDE; set(2, -1, 0) = OUTSIDE");
        RUNS.run("5 outside", "thing(1) = 0",
                "set(0, 4, 0) = OUTSIDE; set(0, -1, 0) = OUTSIDE; set(0, MIN, 0) = OUTSIDE; set(0, MAX, 0) = OUTSIDE",
                "set(0, 0, 2) = OUTSIDE; set(0, 0, -1) = OUTSIDE; set(0, 1, 2) = OUTSIDE; set(0, 1, MIN) = OUTSIDE",
                "set(0, 2, 10) = OUTSIDE; set(0, 2, -1) = OUTSIDE; set(0, 3, 10) = OUTSIDE; set(0, 3, MAX) = OUTSIDE",
                "told(0, 5) = 0; told(0, 6) = 0; told(0, 7) = 0; told(0, 8) = 0");
    }

    private static void promise6Door() {
        RUNS.run("6 numbers; shut, not clear", "thing(0) = 0; thing(0) = 1; thing(0) = 2",
                "door(0, 1) = 0; door(1, 0) = 1; door(2, 1) = 2; count(1) = 3; count(0) = 3",
                "turn(2, 0, 0) = 0; turn(2, 1, 0) = 0; loses(1, 2, 0) = NONE; loses(1, 2, 1) = 3");
        RUNS.run("6 unknown, ahead of outside",
                "thing(0) = 0; thing(1) = 1; thing(2) = 2; thing(3) = 3; thing(4) = 4; door(0, 1) = UNKNOWN",
                "door(2, 0) = UNKNOWN; door(0, 3) = UNKNOWN; door(4, 0) = UNKNOWN; door(0, 5) = UNKNOWN",
                "door(-1, 0) = UNKNOWN; door(1, 1) = UNKNOWN; door(7, 7) = UNKNOWN; door(MIN, 0) = UNKNOWN",
                "door(0, MAX) = UNKNOWN; door(0, 0) = OUTSIDE; count(1) = 0");
        RUNS.run("6 ten, and outside ahead of room", "thing(0) = 0; thing(0) = 1; thing(1) = 2",
                "door(0, 1) = 0; door(0, 1) = 1; door(0, 1) = 2; door(0, 1) = 3; door(0, 1) = 4",
                "door(1, 0) = 5; door(1, 0) = 6; door(1, 0) = 7; door(1, 0) = 8; door(1, 0) = 9",
                "door(0, 1) = ROOM; door(1, 1) = OUTSIDE; door(1, 2) = UNKNOWN; count(1) = 10");
    }

    private static void promise7Turn() {
        RUNS.run("7 what it was", "thing(0) = 0; thing(0) = 1; door(0, 1) = 0; door(0, 1) = 1",
                "turn(0, 0, 1) = 0; turn(0, 0, 1) = 1; turn(0, 0, 0) = 1; turn(0, 0, 0) = 0",
                "turn(0, 1, 1) = 0; turn(0, 1, 1) = 1; turn(0, 0, 0) = 0; turn(1, 1, 0) = 0; turn(0, 1, 0) = 1",
                "turn(1, 0, 1) = 0; turn(0, 0, 1) = 0; turn(1, 0, 0) = 1");
        RUNS.run("7 unknown, ahead of outside", "turn(0, 5, 5) = UNKNOWN; thing(0) = 0; thing(0) = 1; door(0, 1) = 0",
                "turn(1, 0, 0) = UNKNOWN; turn(-1, 0, 0) = UNKNOWN; turn(MIN, 0, 0) = UNKNOWN",
                "turn(MAX, 2, 0) = UNKNOWN; turn(1, 0, 2) = UNKNOWN");
        RUNS.run("7 outside", "thing(0) = 0; thing(0) = 1; door(0, 1) = 0",
                "turn(0, 2, 0) = OUTSIDE; turn(0, -1, 0) = OUTSIDE; turn(0, MIN, 0) = OUTSIDE",
                "turn(0, 0, 2) = OUTSIDE; turn(0, 0, -1) = OUTSIDE; turn(0, 1, 2) = OUTSIDE; turn(0, 1, MAX) = OUTSIDE",
                "turn(0, 0, 0) = 0; turn(0, 1, 0) = 0");
    }
}
