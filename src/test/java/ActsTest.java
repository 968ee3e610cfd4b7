/** Promises 8 to 11: what a PERSON does. */
public final class ActsTest {
    private static final Runs RUNS = new Runs();

    public static void main(String[] args) {
        promise8Take();
        promise8TakeRefused();
        promise9Give();
        promise9GiveRefused();
        promise10Drop();
        promise11Go();
        RUNS.end();
    }

    private static void promise8Take() {
        RUNS.run("8 from the room, twice", "thing(0) = 0; thing(3) = 1; thing(4) = 2; put(1, 0) = NONE; put(2, 0) = NONE",
                "take(1, 2) = 1; told(2, 1) = 1; take(1, 2) = 0; told(2, 1) = 1; told(0, 3) = 1");
        RUNS.run("8 from a box, a shelf, a box in its own hands",
                "thing(0) = 0; thing(3) = 1; thing(1) = 2; thing(2) = 3; thing(4) = 4; thing(4) = 5",
                "put(1, 0) = NONE; put(2, 1) = NONE; put(3, 0) = NONE; put(4, 2) = NONE; put(5, 3) = NONE",
                "take(1, 5) = 1; take(1, 4) = BARRED; set(2, 0, 1) = 0; take(1, 4) = 1; take(1, 2) = 0; take(1, 3) = 1");
        RUNS.run("8 boxes and shelves, with what is in them",
                "thing(0) = 0; thing(3) = 1; thing(1) = 2; thing(3) = 3; put(1, 0) = NONE; put(2, 0) = NONE",
                "put(3, 2) = NONE; take(1, 2) = 1; told(3, 1) = 2; told(1, 4) = 2");
        RUNS.run("8 without a holder it takes what it has within it",
                "thing(3) = 0; thing(2) = 1; thing(4) = 2; put(1, 0) = NONE; put(2, 1) = NONE; take(0, 2) = 1",
                "told(2, 1) = 0");
    }

    private static void promise8TakeRefused() {
        RUNS.run("8 unknown", "thing(0) = 0; thing(3) = 1; thing(3) = 2; thing(4) = 3; thing(1) = 4; thing(2) = 5",
                "put(1, 0) = NONE; put(2, 0) = NONE; put(3, 0) = NONE",
                "take(0, 3) = UNKNOWN; take(3, 3) = UNKNOWN; take(4, 3) = UNKNOWN; take(5, 3) = UNKNOWN",
                "take(6, 3) = UNKNOWN; take(-1, 3) = UNKNOWN; take(MIN, 3) = UNKNOWN; take(MAX, 3) = UNKNOWN",
                "take(1, 6) = UNKNOWN; take(1, -1) = UNKNOWN; take(1, MIN) = UNKNOWN; take(1, MAX) = UNKNOWN",
                "take(1, 0) = UNKNOWN; take(1, 2) = UNKNOWN; take(1, 1) = UNKNOWN; told(3, 1) = 0");
        RUNS.run("8 ring, near and far; unknown ahead of it",
                "thing(0) = 0; thing(1) = 1; thing(2) = 2; thing(3) = 3; thing(3) = 4; put(1, 0) = NONE",
                "put(2, 1) = NONE; put(3, 2) = NONE; take(3, 2) = RING; take(3, 1) = RING; take(3, 0) = UNKNOWN",
                "put(4, 2) = NONE; put(3, 4) = 2; take(3, 4) = UNKNOWN; take(3, 1) = RING; told(1, 1) = 0");
        RUNS.run("8 apart", "thing(0) = 0; thing(0) = 1; thing(3) = 2; thing(4) = 3; put(3, 1) = NONE",
                "take(2, 3) = APART; put(2, 0) = NONE; take(2, 3) = APART; door(0, 1) = 0; turn(0, 0, 1) = 0",
                "take(2, 3) = APART; put(3, -1) = 1; take(2, 3) = APART; told(3, 1) = NONE");
        RUNS.run("8 out of the hands of another", "thing(0) = 0; thing(3) = 1; thing(3) = 2; thing(4) = 3; put(1, 0) = NONE",
                "put(2, 0) = NONE; put(3, 2) = NONE; take(1, 3) = BARRED; told(3, 1) = 2");
        RUNS.run("8 a full person; barred and apart ahead of it", "thing(0) = 0; thing(3) = 1; thing(1) = 2; put(1, 0) = NONE",
                "put(2, 0) = NONE;" + Runs.lumpsIn(1, 3, 8),
                "thing(4) = 11; take(1, 11) = APART; put(11, 2) = NONE; take(1, 11) = BARRED; put(11, 0) = 2",
                "take(1, 11) = ROOM; told(11, 1) = 0; take(1, 3) = 0; put(3, 0) = 1; take(1, 11) = 1; take(1, 3) = ROOM");
    }

    private static void promise9Give() {
        String some = "thing(0) = 0; thing(3) = 1; thing(1) = 2; thing(2) = 3; thing(3) = 4; thing(4) = 5;"
                + "put(1, 0) = NONE; put(2, 0) = NONE; put(3, 0) = NONE; put(4, 0) = NONE; put(5, 1) = NONE;";
        RUNS.run("9 into a box", some, "set(2, 0, 1) = 0; give(1, 5, 2) = 1; told(5, 1) = 2; told(1, 3) = 0");
        RUNS.run("9 onto a shelf", some, "give(1, 5, 3) = 1; told(5, 1) = 3; give(1, 5, 3) = UNKNOWN");
        RUNS.run("9 to a person", some, "give(1, 5, 4) = 1; told(5, 1) = 4; give(4, 5, 1) = 1; told(5, 1) = 1");
        RUNS.run("9 into what it has itself", some, "put(3, 1) = 0; give(1, 5, 3) = 1; told(5, 1) = 3; told(1, 4) = 2");
        RUNS.run("9 to the one that carries it", some, "put(1, 4) = 0; give(1, 5, 4) = 1; told(5, 1) = 4");
        RUNS.run("9 a person, with what it has", some,
                "put(4, 1) = 0; put(5, 4) = 1; give(1, 4, 3) = 1; told(4, 1) = 3; told(5, 1) = 4");
    }

    private static void promise9GiveRefused() {
        String some = "thing(0) = 0; thing(3) = 1; thing(1) = 2; thing(2) = 3; thing(3) = 4; thing(4) = 5;"
                + "put(1, 0) = NONE; put(2, 0) = NONE; put(3, 0) = NONE; put(4, 0) = NONE; put(5, 1) = NONE;";
        RUNS.run("9 unknown", some,
                "give(0, 5, 3) = UNKNOWN; give(6, 5, 3) = UNKNOWN; give(-1, 5, 3) = UNKNOWN; give(MIN, 5, 3) = UNKNOWN",
                "give(1, 6, 3) = UNKNOWN; give(1, -1, 3) = UNKNOWN; give(1, MAX, 3) = UNKNOWN; give(1, 2, 3) = UNKNOWN",
                "give(4, 5, 3) = UNKNOWN; give(1, 5, 0) = UNKNOWN; give(1, 5, 5) = UNKNOWN; give(1, 5, 1) = UNKNOWN",
                "give(1, 5, 6) = UNKNOWN; give(1, 5, -1) = UNKNOWN; give(1, 5, MIN) = UNKNOWN; give(1, 5, MAX) = UNKNOWN",
                "put(5, 3) = 1; put(3, 1) = 0; give(1, 5, 4) = UNKNOWN; told(5, 1) = 3");
        RUNS.run("9 one that holds, but is no person", "thing(1) = 0; thing(4) = 1; thing(2) = 2; put(1, 0) = NONE",
                "give(0, 1, 2) = UNKNOWN");
        RUNS.run("9 ring", some, "put(3, 1) = 0; put(2, 3) = 0; put(5, 2) = 1; give(1, 3, 2) = RING",
                "give(1, 3, 3) = RING; set(2, 0, 1) = 0; give(1, 3, 2) = RING; told(3, 1) = 1");
        RUNS.run("9 apart, ahead of barred", some, "put(3, -1) = 0; give(1, 5, 3) = APART; put(2, -1) = 0",
                "give(1, 5, 2) = APART; put(1, -1) = 0; give(1, 5, 4) = APART; told(5, 1) = 1");
        RUNS.run("9 barred on the way", some, "put(3, 2) = 0; give(1, 5, 3) = BARRED; set(2, 0, 1) = 0; put(3, 4) = 2",
                "give(1, 5, 3) = BARRED; told(5, 1) = 1; put(3, 2) = 4; give(1, 5, 3) = 1");
        RUNS.run("9 a shut box, from without, from within, carried", some,
                "give(1, 5, 2) = BARRED; put(1, 2) = 0; give(1, 5, 2) = BARRED; set(2, 1, 1) = 0; give(1, 5, 2) = BARRED",
                "put(1, 0) = 2; put(2, 1) = 0; give(1, 5, 2) = BARRED; set(2, 0, 1) = 0; give(1, 5, 2) = 1");
        RUNS.run("9 a full one; barred ahead of it", some, Runs.lumpsIn(2, 6, 8),
                "give(1, 5, 2) = BARRED; set(2, 0, 1) = 0; give(1, 5, 2) = ROOM; told(5, 1) = 1",
                "put(6, 0) = 2; give(1, 5, 2) = 1");
    }

    private static void promise10Drop() {
        RUNS.run("10 to where it is", "thing(0) = 0; thing(1) = 1; thing(3) = 2; thing(4) = 3; thing(2) = 4; put(2, 0) = NONE",
                "put(3, 2) = NONE; drop(2, 3) = 1; told(3, 1) = 0; drop(2, 3) = UNKNOWN",
                "put(2, 1) = 0; put(3, 2) = 0; drop(2, 3) = 1; told(3, 1) = 1",
                "put(2, 4) = 1; put(3, 2) = 1; drop(2, 3) = 1; told(3, 1) = 4");
        RUNS.run("10 into the hands that carry it", "thing(3) = 0; thing(3) = 1; thing(1) = 2; put(1, 0) = NONE; put(2, 1) = NONE",
                "drop(1, 2) = 1; told(2, 1) = 0");
        RUNS.run("10 unknown", "thing(0) = 0; thing(1) = 1; thing(3) = 2; thing(4) = 3; thing(4) = 4; put(2, 0) = NONE",
                "put(1, 2) = NONE; put(3, 1) = NONE; put(4, 0) = NONE",
                "drop(2, 3) = UNKNOWN; drop(1, 3) = UNKNOWN; drop(0, 4) = UNKNOWN; drop(2, 4) = UNKNOWN",
                "drop(2, 2) = UNKNOWN; drop(2, 5) = UNKNOWN; drop(2, -1) = UNKNOWN; drop(5, 3) = UNKNOWN",
                "drop(-1, 3) = UNKNOWN; drop(-1, 0) = UNKNOWN; drop(MIN, MIN) = UNKNOWN; drop(2, MAX) = UNKNOWN");
        RUNS.run("10 apart; unknown ahead of it", "thing(3) = 0; thing(4) = 1; drop(0, 1) = UNKNOWN; put(1, 0) = NONE",
                "drop(0, 1) = APART; told(1, 1) = 0");
        RUNS.run("10 a full one", "thing(2) = 0; thing(3) = 1; put(1, 0) = NONE", Runs.lumpsIn(0, 2, 7),
                "thing(4) = 9; put(9, 1) = NONE; drop(1, 9) = ROOM; told(9, 1) = 1; put(2, -1) = 0; drop(1, 9) = 1");
        RUNS.run("10 a room has any number", "thing(0) = 0; thing(3) = 1; put(1, 0) = NONE", Runs.lumpsIn(0, 2, 9),
                "thing(4) = 11; put(11, 1) = NONE; drop(1, 11) = 1; told(0, 3) = 11");
    }

    private static void promise11Go() {
        String some = "thing(0) = 0; thing(0) = 1; thing(0) = 2; thing(3) = 3; thing(2) = 4; thing(4) = 5; thing(1) = 6;"
                + "door(0, 1) = 0; door(2, 1) = 1; put(3, 0) = NONE; put(4, 0) = NONE; put(5, 3) = NONE;";
        RUNS.run("11 there and back", some, "turn(0, 0, 1) = 0; turn(1, 0, 1) = 0; go(3, 0) = 1; told(3, 1) = 1",
                "told(5, 2) = 1; go(3, 0) = 0; go(3, 0) = 1; go(3, 1) = 2; told(3, 1) = 2; go(3, 1) = 1; go(3, 1) = 2");
        RUNS.run("11 unknown", some, "turn(0, 0, 1) = 0; go(5, 0) = UNKNOWN; go(0, 0) = UNKNOWN; go(4, 0) = UNKNOWN",
                "go(6, 0) = UNKNOWN; go(7, 0) = UNKNOWN; go(-1, 0) = UNKNOWN; go(MIN, 0) = UNKNOWN; go(3, 2) = UNKNOWN",
                "go(3, -1) = UNKNOWN; go(3, MAX) = UNKNOWN; go(3, MIN) = UNKNOWN; told(3, 1) = 0");
        RUNS.run("11 apart, ahead of barred", some, "go(3, 1) = APART; turn(1, 0, 1) = 0; go(3, 1) = APART",
                "put(3, 4) = 0; turn(0, 0, 1) = 0; go(3, 0) = APART; put(3, -1) = 4; go(3, 0) = APART",
                "put(6, 0) = NONE; put(3, 6) = NONE; set(6, 0, 1) = 0; go(3, 0) = APART; told(3, 1) = 6");
        RUNS.run("11 barred, clear or not", some, "go(3, 0) = BARRED; turn(0, 1, 1) = 0; go(3, 0) = BARRED; told(3, 1) = 0",
                "turn(0, 0, 1) = 0; go(3, 0) = 1");
        RUNS.run("11 a full room there is not", some, Runs.lumpsIn(1, 7, 9), "turn(0, 0, 1) = 0; go(3, 0) = 1; told(1, 3) = 10");
    }
}
