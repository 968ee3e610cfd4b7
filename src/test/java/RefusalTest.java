/** Every refusal that the document names, alone and together with another one; and that nothing changes then. */
public final class RefusalTest {
    private static final Runs RUNS = new Runs();

    private static final String[] ANY_SORT = {"0", "7", "8", "3", "9"};
    /** Too small and too large for a THING; and by 32, 256 and 65536 beside the PERSON 3, as if bits were lost. */
    private static final String[] NO_THINGS = {
        "-2", "-3", "-29", "-30", "30", "31", "32", "35", "64", "259", "65539", "MAX", "MIN"};
    private static final String[] NO_DOORS = {
        "-1", "-2", "-10", "2", "3", "9", "10", "11", "32", "256", "65536", "MAX", "MIN"};
    private static final String[] NOT_0_OR_1 = {"-1", "2", "3", "32", "256", "65536", "MAX", "MIN"};
    private static final String[] NOT_0_TO_9 = {"-1", "-9", "10", "11", "16", "256", "MAX", "MIN"};

    /**
     * Thirty THINGS. ROOMS 0 (most are there), 1, 2; DOOR 0 from 0 to 1 is SHUT, DOOR 1 from 1 to 2 OPEN.
     * PERSON 3 has LUMP 10 and a SHUT BOX 28 with SHELF 29; PERSON 4 has LUMP 11. SHUT and CLEAR BOX 5 has a lit
     * LUMP 6; OPEN BOX 7 has SHELF 8 with LUMP 9. SHUT BOX 12 has PERSON 13 with LUMP 14. SHELF 15 has eight
     * LUMPS, 16 to 23. PERSON 24 with LUMP 25, and LUMP 26, are nowhere. LUMP 27 is in ROOM 1.
     */
    private static final String WORLD = "thing(0) = 0; thing(0) = 1; thing(0) = 2;"
            + "thing(3) = 3; put(3, 0) = NONE; thing(3) = 4; put(4, 0) = NONE;"
            + "thing(1) = 5; put(5, 0) = NONE; set(5, 1, 1) = 0; thing(4) = 6; put(6, 5) = NONE; set(6, 2, 9) = 0;"
            + "thing(1) = 7; put(7, 0) = NONE; set(7, 0, 1) = 0; thing(2) = 8; put(8, 7) = NONE;"
            + "thing(4) = 9; put(9, 8) = NONE; set(9, 3, 5) = 0;"
            + "thing(4) = 10; put(10, 3) = NONE; thing(4) = 11; put(11, 4) = NONE;"
            + "thing(1) = 12; put(12, 0) = NONE; thing(3) = 13; put(13, 12) = NONE; thing(4) = 14; put(14, 13) = NONE;"
            + "thing(2) = 15; put(15, 0) = NONE;" + Runs.lumpsIn(15, 16, 8)
            + "thing(3) = 24; thing(4) = 25; put(25, 24) = NONE; thing(4) = 26; thing(4) = 27; put(27, 1) = NONE;"
            + "thing(1) = 28; put(28, 3) = NONE; thing(2) = 29; put(29, 28) = NONE;"
            + "door(0, 1) = 0; door(1, 2) = 1; turn(1, 0, 1) = 0;";
    private static final String TEN_DOORS = WORLD + "door(0, 1) = 2; door(0, 1) = 3; door(0, 2) = 4; door(0, 2) = 5;"
            + "door(1, 2) = 6; door(2, 1) = 7; door(2, 0) = 8; door(1, 0) = 9;";
    /** PERSON 3 has eight then, six from SHELF 15; LUMPS 22 and 23 stay there. */
    private static final String FULL_HANDS = WORLD
            + Runs.eachFrom("put(?, 3) = 15", 16, 21) + "told(3, 3) = 8;";

    public static void main(String[] args) {
        unknownNumbers();
        unknownSorts();
        outside();
        refusalsOfBuilding();
        refusalsOfTake();
        refusalsOfGive();
        refusalsOfDropAndGo();
        orderInBuilding();
        orderInTake();
        orderInGive();
        orderInDropAndGo();
        orderInWhatIsTold();
        whatIsToldChangesNothing();
        onAnEmptyObject();
        RUNS.end();
    }

    private static void refused(String title, String... calls) {
        RUNS.changeNothing(title, WORLD, calls);
    }

    private static void refusedAfter(String title, String more, String... calls) {
        RUNS.changeNothing(title, WORLD + more, calls);
    }

    private static void unknownNumbers() {
        String[] things = {
            "put(?, 0)", "put(9, ?)", "set(?, 2, 1)", "set(?, 0, 1)", "door(?, 1)", "door(0, ?)", "take(?, 9)", "take(3, ?)",
            "give(?, 10, 7)", "give(3, ?, 7)", "give(3, 10, ?)", "drop(?, 10)", "drop(3, ?)", "go(?, 0)", "told(?, 0)",
            "held(?, 0)", "space(?, 0)", "loses(?, 0, 0)", "loses(0, ?, 0)", "sees(?, 9)", "sees(3, ?)", "barrier(?, 9)",
            "barrier(3, ?)", "scope(?, 0)", "hears(?)"};
        for (String call : things) {
            refused("no such thing", Runs.each(call + " = UNKNOWN", NO_THINGS));
            if (!call.equals("put(9, ?)")) {
                refused("NONE is no thing but for the holder", call.replace("?", "-1") + " = UNKNOWN");
            }
        }
        for (String call : new String[] {"turn(?, 0, 1)", "turn(?, 1, 1)", "go(3, ?)"}) {
            refused("no such door", Runs.each(call + " = UNKNOWN", NO_DOORS));
        }
        RUNS.changeNothing("one number too large of few", "thing(3) = 0; thing(4) = 1;",
                "put(2, 0) = UNKNOWN; put(1, 2) = UNKNOWN; set(2, 2, 1) = UNKNOWN; take(0, 2) = UNKNOWN",
                "take(2, 1) = UNKNOWN; told(2, 0) = UNKNOWN; held(2, 0) = UNKNOWN; sees(0, 2) = UNKNOWN",
                "barrier(0, 2) = UNKNOWN; hears(2) = UNKNOWN");
    }

    private static void unknownSorts() {
        refused("4 a room gets no holder", Runs.each("put(0, ?) = UNKNOWN", "-1", "1", "7", "8", "3", "0"));
        refused("4 a lump is no holder", Runs.each("put(?, 10) = UNKNOWN", "3", "7", "8", "9", "10"));
        refused("5 open and clear of a box alone", Runs.each("set(?, 0, 0) = UNKNOWN", "0", "8", "3", "9"),
                Runs.each("set(?, 0, 1) = UNKNOWN", "0", "8", "3", "9"),
                Runs.each("set(?, 1, 0) = UNKNOWN", "0", "8", "3", "9"),
                Runs.each("set(?, 1, 1) = UNKNOWN", "0", "8", "3", "9"));
        refused("6 doors of rooms alone", Runs.each("door(?, 0) = UNKNOWN", "7", "8", "3", "9"),
                Runs.each("door(1, ?) = UNKNOWN", "7", "8", "3", "9"));
        for (String call : new String[] {"take(?, 9)", "give(?, 10, 7)", "drop(?, 10)", "go(?, 1)", "sees(?, 9)",
            "barrier(?, 9)", "scope(?, 0)", "hears(?)"}) {
            refused("8 to 11, 17 to 20: no person", Runs.each(call + " = UNKNOWN", "0", "7", "8", "9"));
        }
        refused("8 a room, a person, itself", Runs.each("take(3, ?) = UNKNOWN", "0", "1", "4", "13", "24", "3"));
        refused("9 what holds it is no person", "give(7, 8, 15) = UNKNOWN; give(8, 9, 7) = UNKNOWN; give(0, 7, 8) = UNKNOWN");
        refused("9 not the holder", Runs.each("give(3, ?, 7) = UNKNOWN", "11", "9", "29", "8", "26", "3", "0"));
        refused("9 into another sort, itself", Runs.each("give(3, 10, ?) = UNKNOWN", "0", "1", "9", "11", "10", "3"));
        refused("10 what holds it is no person", "drop(8, 9) = UNKNOWN; drop(7, 8) = UNKNOWN; drop(0, 7) = UNKNOWN");
        refused("10 not the holder", Runs.each("drop(3, ?) = UNKNOWN", "11", "9", "29", "26", "3", "0"));
        refused("15, 16 no space", Runs.each("space(?, 0) = UNKNOWN; space(?, 1) = UNKNOWN", "8", "3", "9"),
                Runs.each("loses(?, 0, 0) = UNKNOWN; loses(0, ?, 1) = UNKNOWN; loses(?, ?, 0) = UNKNOWN", "8", "3", "9"));
    }

    private static void outside() {
        refused("2 sort", Runs.each("thing(?) = OUTSIDE", "-1", "-5", "5", "6", "8", "32", "256", "MAX", "MIN"));
        RUNS.changeNothing("2 sort, of the first thing", "", Runs.each("thing(?) = OUTSIDE", "-1", "5", "32", "MAX", "MIN"));
        for (String sort : ANY_SORT) {
            refused("5 what", Runs.each("set(" + sort + ", ?, 0) = OUTSIDE", "-1", "-4", "4", "5", "32", "256", "MAX", "MIN"));
            refused("5 light and sound", Runs.each("set(" + sort + ", 2, ?) = OUTSIDE", NOT_0_TO_9),
                    Runs.each("set(" + sort + ", 3, ?) = OUTSIDE", NOT_0_TO_9));
            refused("13 what", Runs.each("told(" + sort + ", ?) = OUTSIDE", "-1", "-9", "9", "10", "32", "256", "MAX", "MIN"));
        }
        refused("5 open and clear", Runs.each("set(5, 0, ?) = OUTSIDE; set(5, 1, ?) = OUTSIDE", NOT_0_OR_1),
                Runs.each("set(7, 0, ?) = OUTSIDE; set(7, 1, ?) = OUTSIDE", NOT_0_OR_1));
        refused("6 one room told twice", "door(0, 0) = OUTSIDE; door(1, 1) = OUTSIDE; door(2, 2) = OUTSIDE");
        refused("7 what", Runs.each("turn(0, ?, 0) = OUTSIDE; turn(1, ?, 1) = OUTSIDE", NOT_0_OR_1));
        refused("7 v", Runs.each("turn(0, 0, ?) = OUTSIDE; turn(1, 0, ?) = OUTSIDE; turn(0, 1, ?) = OUTSIDE", NOT_0_OR_1));
        refused("12 what", Runs.each("count(?) = OUTSIDE", NOT_0_OR_1));
        refused("15 what", Runs.each("space(0, ?) = OUTSIDE; space(5, ?) = OUTSIDE", NOT_0_OR_1));
        refused("16 what", Runs.each("loses(0, 5, ?) = OUTSIDE; loses(5, 5, ?) = OUTSIDE", NOT_0_OR_1));
    }

    private static void refusalsOfBuilding() {
        refused("2 no more than thirty", Runs.eachFrom("thing(?) = ROOM", 0, 4));
        refused("4 ring: into itself", Runs.each("put(?, ?) = RING", "3", "5", "7", "8", "15", "24"));
        refused("4 ring: into what is within it", "put(7, 8) = RING; put(3, 28) = RING; put(3, 29) = RING; put(28, 29) = RING",
                "put(12, 13) = RING");
        refused("4 room: a holder would have nine", Runs.each("put(?, 15) = ROOM", "3", "7", "8", "9", "10", "24", "26"));
        RUNS.changeNothing("6 no more than ten", TEN_DOORS, "door(0, 1) = ROOM; door(1, 2) = ROOM; door(2, 0) = ROOM");
        RUNS.changeNothing("4 what a full holder has may be put there again", WORLD,
                Runs.each("put(?, 15) = 15", "16", "19", "23"));
    }

    private static void refusalsOfTake() {
        refused("8 ring: it is within that thing", "take(13, 12) = RING");
        refusedAfter("8 ring: far within", "put(12, 8) = 0", "take(13, 12) = RING; take(13, 8) = RING; take(13, 7) = RING");
        refused("8 apart: of what is nowhere, and in another room", "take(3, 26) = APART; take(3, 27) = APART",
                "take(3, 25) = APART");
        refused("8 apart: for a person that is nowhere", Runs.each("take(24, ?) = APART", "7", "8", "9", "10", "26", "27"));
        refused("8 barred: into a shut box, into hands", "take(3, 6) = BARRED; take(3, 29) = BARRED; take(3, 11) = BARRED",
                "take(4, 28) = BARRED; take(4, 29) = BARRED");
        refused("8 barred: out of a shut box", Runs.each("take(13, ?) = BARRED", "7", "9", "5", "6", "11", "15", "16"));
        RUNS.changeNothing("8 room: hands that have eight", FULL_HANDS, Runs.each("take(3, ?) = ROOM", "7", "8", "9", "5",
                "15", "22"));
        RUNS.changeNothing("8 0: it was already", FULL_HANDS, Runs.each("take(3, ?) = 0", "10", "28", "16", "21"));
    }

    private static void refusalsOfGive() {
        refused("9 ring: into itself, into what is within it", "give(3, 28, 28) = RING; give(3, 28, 29) = RING");
        refusedAfter("9 ring: also of an open box, and of a person", "set(28, 0, 1) = 0; put(4, 29) = 0",
                "give(3, 28, 28) = RING; give(3, 28, 29) = RING; give(3, 28, 4) = RING");
        refused("9 apart", "give(3, 10, 24) = APART; give(24, 25, 7) = APART; give(24, 25, 5) = APART",
                "give(24, 25, 3) = APART");
        refusedAfter("9 apart: in another room, with an open door", "turn(0, 0, 1) = 0; put(7, 1) = 0",
                "give(3, 10, 7) = APART; give(3, 10, 8) = APART");
        refused("9 barred: a shut box", "give(3, 10, 5) = BARRED; give(3, 10, 12) = BARRED; give(3, 10, 28) = BARRED");
        refused("9 barred: a shut box from within it", "give(13, 14, 12) = BARRED");
        refused("9 barred: into a shut box, into hands", "give(3, 10, 29) = BARRED; give(3, 10, 13) = BARRED",
                "give(4, 11, 28) = BARRED");
        refused("9 barred: out of a shut box", Runs.each("give(13, 14, ?) = BARRED", "7", "8", "3", "15", "5"));
        refused("9 room: a shelf that has eight", "give(3, 10, 15) = ROOM; give(3, 28, 15) = ROOM; give(4, 11, 15) = ROOM");
        RUNS.changeNothing("9 room: hands that have eight", FULL_HANDS, "give(4, 11, 3) = ROOM");
        refusedAfter("9 room: an open box that has eight", Runs.eachFrom("put(?, 7) = 15", 16, 22),
                "told(7, 3) = 8; give(3, 10, 7) = ROOM");
    }

    private static void refusalsOfDropAndGo() {
        refused("10 apart: the person has no holder", "drop(24, 25) = APART");
        refusedAfter("10 room: the holder has eight, the person among them", "put(23, 0) = 15; put(3, 15) = 0",
                "told(15, 3) = 8; drop(3, 10) = ROOM; drop(3, 28) = ROOM");
        refusedAfter("10 room: hands that have eight", "put(13, 3) = 12;" + Runs.eachFrom("put(?, 3) = 15", 16, 20),
                "told(3, 3) = 8; drop(13, 14) = ROOM");
        refused("11 apart: it is in none of both rooms", "go(3, 1) = APART; go(4, 1) = APART");
        refusedAfter("11 apart: it is deeper in the room, or nowhere", "turn(0, 0, 1) = 0; put(4, 8) = 0", "go(13, 0) = APART",
                "go(4, 0) = APART; go(24, 0) = APART; go(24, 1) = APART");
        refused("11 barred: shut", "go(3, 0) = BARRED; go(4, 0) = BARRED");
        refusedAfter("11 barred: shut, clear, from the other side", "turn(0, 1, 1) = 0; put(3, 1) = 0", "go(3, 0) = BARRED");
    }

    private static void orderInBuilding() {
        refused("2 outside ahead of room", "thing(5) = OUTSIDE; thing(-1) = OUTSIDE");
        refused("4 unknown ahead of ring", "put(10, 10) = UNKNOWN; put(0, 0) = UNKNOWN; put(0, 3) = UNKNOWN",
                "put(8, 9) = UNKNOWN");
        refused("4 unknown ahead of room", "put(0, 15) = UNKNOWN; put(30, 15) = UNKNOWN; put(-1, 15) = UNKNOWN");
        refusedAfter("4 ring ahead of room", "put(15, 7) = 0", "put(7, 15) = RING; put(15, 15) = RING");
        refused("5 unknown ahead of outside", "set(30, 4, 0) = UNKNOWN; set(-1, -1, -1) = UNKNOWN; set(0, 0, 2) = UNKNOWN",
                "set(3, 1, -1) = UNKNOWN; set(9, 0, 9) = UNKNOWN; set(8, 1, MAX) = UNKNOWN");
        refused("6 unknown ahead of outside", "door(7, 7) = UNKNOWN; door(30, 30) = UNKNOWN; door(-1, -1) = UNKNOWN",
                "door(3, 3) = UNKNOWN");
        RUNS.changeNothing("6 unknown and outside ahead of room", TEN_DOORS, "door(0, 7) = UNKNOWN; door(30, 1) = UNKNOWN",
                "door(1, 1) = OUTSIDE; door(0, 0) = OUTSIDE; door(7, 7) = UNKNOWN");
        refused("7 unknown ahead of outside", "turn(2, 2, 0) = UNKNOWN; turn(-1, 0, 2) = UNKNOWN; turn(10, -1, -1) = UNKNOWN");
    }

    private static void orderInTake() {
        refusedAfter("8 unknown ahead of ring", "put(4, 3) = 0", "take(4, 3) = UNKNOWN; take(4, 0) = UNKNOWN");
        refused("8 unknown ahead of apart", "take(3, 1) = UNKNOWN; take(3, 24) = UNKNOWN; take(24, 0) = UNKNOWN",
                "take(24, 3) = UNKNOWN");
        refused("8 unknown ahead of barred", "take(3, 13) = UNKNOWN; take(13, 0) = UNKNOWN; take(13, 3) = UNKNOWN",
                "take(5, 6) = UNKNOWN");
        RUNS.changeNothing("8 unknown ahead of room", FULL_HANDS, "take(3, 4) = UNKNOWN; take(3, 0) = UNKNOWN",
                "take(3, 30) = UNKNOWN");
        refusedAfter("8 ring ahead of barred", "put(12, 5) = 0", "take(13, 5) = RING");
        refusedAfter("8 ring ahead of room", "set(12, 0, 1) = 0;" + Runs.eachFrom("put(?, 13) = 15", 16, 22),
                "told(13, 3) = 8; take(13, 12) = RING");
        refused("8 apart ahead of barred", "take(13, 26) = APART; take(13, 27) = APART; take(3, 25) = APART");
        refusedAfter("8 apart ahead of barred: a shut box elsewhere", "put(5, 1) = 0", "take(3, 6) = APART",
                "take(13, 6) = APART");
        RUNS.changeNothing("8 apart and barred ahead of room", FULL_HANDS, "take(3, 26) = APART; take(3, 27) = APART",
                "take(3, 6) = BARRED; take(3, 11) = BARRED; take(3, 29) = BARRED");
    }

    private static void orderInGive() {
        refusedAfter("9 unknown ahead of ring", "put(9, 29) = 8", "give(3, 10, 10) = UNKNOWN; give(3, 28, 9) = UNKNOWN",
                "give(4, 28, 29) = UNKNOWN; give(4, 28, 28) = UNKNOWN; give(3, 29, 29) = UNKNOWN");
        refused("9 unknown ahead of apart", "give(3, 10, 1) = UNKNOWN; give(3, 10, 26) = UNKNOWN; give(3, 25, 24) = UNKNOWN",
                "give(24, 25, 24) = UNKNOWN; give(24, 10, 7) = UNKNOWN; give(24, 25, 0) = UNKNOWN");
        refused("9 unknown ahead of barred", "give(3, 10, 6) = UNKNOWN; give(3, 11, 5) = UNKNOWN; give(13, 14, 9) = UNKNOWN",
                "give(13, 9, 12) = UNKNOWN; give(13, 14, 0) = UNKNOWN");
        refused("9 unknown ahead of room", "give(3, 11, 15) = UNKNOWN; give(3, 16, 15) = UNKNOWN; give(8, 9, 15) = UNKNOWN");
        RUNS.changeNothing("9 unknown ahead of room: to itself", FULL_HANDS, "give(3, 10, 3) = UNKNOWN");
        refused("9 ring ahead of barred", "give(3, 28, 28) = RING; give(3, 28, 29) = RING");
        refusedAfter("9 ring ahead of room", "set(28, 0, 1) = 0;"
                + Runs.eachFrom("put(?, 29) = 15", 16, 23), "told(29, 3) = 8",
                "give(3, 28, 29) = RING");
        refusedAfter("9 apart ahead of barred", "put(5, 1) = 0; put(8, 5) = 7", "give(3, 10, 5) = APART",
                "give(3, 10, 8) = APART; give(13, 14, 5) = APART; give(13, 14, 24) = APART");
        refusedAfter("9 apart ahead of room", "put(15, 1) = 0", "give(3, 10, 15) = APART");
        refusedAfter("9 barred ahead of room: on the way", "put(15, 5) = 0", "give(3, 10, 15) = BARRED");
        refusedAfter("9 barred ahead of room: a shut box", Runs.eachFrom("put(?, 5) = 15", 16, 22),
                "told(5, 3) = 8; give(3, 10, 5) = BARRED");
    }

    private static void orderInDropAndGo() {
        refused("10 unknown ahead of apart", "drop(24, 26) = UNKNOWN; drop(24, 10) = UNKNOWN; drop(24, 24) = UNKNOWN",
                "drop(26, 25) = UNKNOWN");
        refusedAfter("10 unknown ahead of room", "put(23, 0) = 15; put(3, 15) = 0", "drop(3, 11) = UNKNOWN",
                "drop(3, 16) = UNKNOWN; drop(3, 3) = UNKNOWN; drop(3, 30) = UNKNOWN; drop(15, 3) = UNKNOWN");
        refused("11 unknown ahead of apart", "go(24, 2) = UNKNOWN; go(13, -1) = UNKNOWN; go(9, 1) = UNKNOWN",
                "go(26, 0) = UNKNOWN");
        refused("11 unknown ahead of barred", "go(7, 0) = UNKNOWN; go(0, 0) = UNKNOWN; go(30, 0) = UNKNOWN");
        refusedAfter("11 apart ahead of barred", "put(3, 2) = 0", "go(3, 0) = APART; go(13, 0) = APART; go(24, 0) = APART");
    }

    private static void orderInWhatIsTold() {
        refused("13 unknown ahead of outside", "told(30, 9) = UNKNOWN; told(-1, -1) = UNKNOWN; told(MIN, MAX) = UNKNOWN");
        refused("14 unknown, whatever i is", "held(30, -1) = UNKNOWN; held(-1, MAX) = UNKNOWN; held(-1, 0) = UNKNOWN");
        refused("15 unknown ahead of outside", "space(3, 2) = UNKNOWN; space(30, -1) = UNKNOWN; space(9, MIN) = UNKNOWN");
        refused("16 unknown ahead of outside", "loses(3, 0, 2) = UNKNOWN; loses(0, 9, -1) = UNKNOWN",
                "loses(30, 30, 2) = UNKNOWN");
        refused("17 unknown, also of itself", "sees(9, 9) = UNKNOWN; sees(0, 0) = UNKNOWN; sees(30, 30) = UNKNOWN",
                "sees(-1, -1) = UNKNOWN");
        refused("18 unknown ahead of apart", "barrier(9, 27) = UNKNOWN; barrier(24, 30) = UNKNOWN; barrier(26, 24) = UNKNOWN");
        refused("18 unknown, also of itself", "barrier(9, 9) = UNKNOWN; barrier(0, 0) = UNKNOWN; barrier(30, 30) = UNKNOWN");
        refused("18 apart", "barrier(3, 1) = APART; barrier(3, 24) = APART; barrier(3, 26) = APART; barrier(24, 0) = APART",
                "barrier(13, 27) = APART");
        refused("19 unknown, whatever i is", "scope(9, -1) = UNKNOWN; scope(30, MAX) = UNKNOWN; scope(0, 0) = UNKNOWN");
    }

    private static void whatIsToldChangesNothing() {
        refused("12 to 14", "count(0) = 30; count(1) = 2; told(15, 3) = 8; told(3, 4) = 3; told(24, 2) = NONE",
                "held(15, 7) = 23; held(15, 8) = NONE; held(15, -1) = NONE; held(9, 0) = NONE");
        refused("15 and 16", "space(0, 0) = 8; space(5, 0) = 9; space(0, 1) = 5; space(1, 1) = 2; loses(5, 1, 1) = 5",
                "loses(5, 1, 0) = NONE");
        refused("17 to 20", "sees(3, 6) = 1; sees(13, 6) = 0; barrier(3, 6) = 5; barrier(3, 3) = NONE; scope(3, 0) = 0",
                "scope(3, 99) = NONE; hears(3) = 9; hears(24) = NONE");
    }

    private static void onAnEmptyObject() {
        RUNS.changeNothing("nothing there is", "", "clear() = 0; put(0, -1) = UNKNOWN; put(0, 0) = UNKNOWN",
                "set(0, 2, 0) = UNKNOWN; door(0, 1) = UNKNOWN; door(0, 0) = UNKNOWN; turn(0, 0, 0) = UNKNOWN",
                "take(0, 1) = UNKNOWN; give(0, 1, 2) = UNKNOWN; drop(0, 1) = UNKNOWN; go(0, 0) = UNKNOWN",
                "told(0, 0) = UNKNOWN; held(0, 0) = UNKNOWN; space(0, 0) = UNKNOWN; loses(0, 0, 0) = UNKNOWN",
                "sees(0, 0) = UNKNOWN; barrier(0, 0) = UNKNOWN; scope(0, 0) = UNKNOWN; hears(0) = UNKNOWN; count(0) = 0",
                "count(1) = 0; count(2) = OUTSIDE");
        RUNS.changeNothing("after clear there is nothing either", WORLD + "clear() = 30;", "told(3, 0) = UNKNOWN",
                "take(3, 10) = UNKNOWN; give(3, 10, 7) = UNKNOWN; drop(3, 10) = UNKNOWN; go(3, 1) = UNKNOWN",
                "turn(0, 0, 1) = UNKNOWN; put(9, -1) = UNKNOWN; space(0, 0) = UNKNOWN; loses(0, 0, 0) = UNKNOWN",
                "hears(3) = UNKNOWN; scope(3, 0) = UNKNOWN; door(0, 1) = UNKNOWN");
    }
}
