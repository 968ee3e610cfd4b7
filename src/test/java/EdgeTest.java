/** The edges that the document's terms name: the first and last number, full and one less, none, and the ends of a way. */
public final class EdgeTest {
    private static final Runs RUNS = new Runs();

    public static void main(String[] args) {
        thirtyThings();
        theFirstNumberOfEachSort();
        theLastNumberOfEachSort();
        tenDoors();
        eightAtMost();
        aRoomHasAnyNumber();
        noThingIsWithinItself();
        levels();
        whatHasNoSpace();
        wallsAndDoors();
        brightAndLoudAtLeastNothing();
        oneDoorAtMost();
        seesInTheDark();
        theWayOut();
        theWayIn();
        theWayToWhatItIsWithin();
        noWay();
        theFirstAndLastOfLists();
        hearsNothing();
        RUNS.end();
    }

    /** n THINGS of one SORT, from a number on. */
    private static String things(int sort, int first, int n) {
        StringBuilder text = new StringBuilder();
        for (int x = first; x < first + n; x++) {
            text.append("thing(").append(sort).append(") = ").append(x).append(';');
        }
        return text.toString();
    }

    /** n THINGS of one SORT from a number on, each in the one before it. */
    private static String chain(int sort, int first, int n) {
        StringBuilder text = new StringBuilder(things(sort, first, n));
        for (int x = first; x < first + n; x++) {
            text.append("put(").append(x).append(", ").append(x - 1).append(") = NONE;");
        }
        return text.toString();
    }

    private static void thirtyThings() {
        for (int sort = 0; sort <= 4; sort++) {
            String more = "thing(" + sort + ")";
            RUNS.run("2 thirty of one sort, no more", things(sort, 0, 29), "count(0) = 29;" + more + " = 29; count(0) = 30",
                    more + " = ROOM;" + more + " = ROOM; count(0) = 30; told(29, 0) = " + sort + "; told(30, 0) = UNKNOWN");
        }
        RUNS.run("2 what is refused is not counted", things(4, 0, 29), "thing(5) = OUTSIDE; thing(-1) = OUTSIDE",
                "thing(4) = 29");
        RUNS.run("3 thirty again, as new", things(1, 0, 30), "set(29, 0, 1) = 0; set(29, 1, 1) = 0; set(29, 2, 9) = 0",
                "set(29, 3, 9) = 0",
                "put(29, 28) = NONE; clear() = 30; clear() = 0;" + things(1, 0, 30), "thing(1) = ROOM; told(29, 1) = NONE",
                "told(28, 3) = 0; told(29, 5) = 0; told(29, 6) = 0; told(29, 7) = 0; told(29, 8) = 0; clear() = 30");
        RUNS.run("3 clear of a single one", "thing(0) = 0; clear() = 1; thing(3) = 0; told(0, 0) = 3; clear() = 1",
                "clear() = 0");
    }

    private static void theFirstNumberOfEachSort() {
        RUNS.run("a room", "thing(0) = 0; thing(0) = 1; thing(3) = 2; put(2, 0) = NONE; door(1, 0) = 0; turn(0, 0, 1) = 0",
                "set(0, 2, 3) = 0; set(0, 3, 2) = 0; sees(2, 0) = 1; hears(2) = 0; barrier(2, 0) = NONE; scope(2, 0) = 0",
                "space(1, 0) = 1; space(1, 1) = 1; go(2, 0) = 1; sees(2, 0) = 1; hears(2) = 0; barrier(2, 0) = APART",
                "go(2, 0) = 0; told(2, 2) = 0");
        RUNS.run("a box", "thing(1) = 0; thing(0) = 1; thing(3) = 2; thing(4) = 3; put(0, 1) = NONE; put(2, 1) = NONE",
                "put(3, 0) = NONE; set(3, 2, 1) = 0; set(3, 3, 3) = 0; told(0, 2) = 1; told(3, 2) = 0; held(1, 0) = 0",
                "held(1, 1) = 2; told(1, 3) = 2; told(1, 4) = 3; barrier(2, 3) = 0; sees(2, 3) = 0; loses(0, 1, 0) = NONE",
                "loses(1, 0, 1) = 2; hears(2) = 3; set(0, 1, 1) = 0; sees(2, 3) = 1; loses(0, 1, 0) = 1; loses(1, 0, 0) = 1",
                "set(0, 0, 1) = 0; space(1, 0) = 1; space(1, 1) = 3; barrier(2, 3) = NONE; take(2, 0) = 1; told(0, 1) = 2",
                "drop(2, 0) = 1; told(0, 1) = 1; scope(2, 0) = 0; scope(2, 1) = 1; scope(2, 2) = 3");
        RUNS.run("a shelf", "thing(2) = 0; thing(0) = 1; thing(3) = 2; thing(4) = 3; put(0, 2) = NONE; put(2, 1) = NONE",
                "put(3, 2) = NONE; told(2, 3) = 2; told(2, 4) = 2; told(1, 4) = 3; held(2, 0) = 0; held(2, 1) = 3",
                "give(2, 3, 0) = 1; told(3, 1) = 0; told(3, 2) = 1; take(2, 0) = 0; put(2, 0) = RING; put(0, -1) = 2");
        RUNS.run("a person", "thing(3) = 0; thing(3) = 1; thing(1) = 2; thing(4) = 3; put(0, 1) = NONE; put(1, 2) = NONE",
                "put(3, 0) = NONE; told(1, 3) = 1; told(1, 4) = 2; told(2, 4) = 3; held(1, 0) = 0; barrier(1, 3) = 0",
                "set(0, 2, 1) = 0; set(0, 3, 1) = 0; sees(1, 0) = 1; sees(0, 0) = 0; hears(1) = 0; hears(0) = NONE",
                "scope(1, 0) = 0; scope(0, 0) = 1; scope(0, 1) = 2; scope(0, 2) = 3; drop(0, 3) = 1; told(3, 1) = 1",
                "take(0, 3) = 1; take(0, 3) = 0; give(0, 3, 1) = 1; give(1, 0, 1) = UNKNOWN; drop(1, 0) = 1; told(0, 1) = 2");
        RUNS.run("a lump", "thing(4) = 0; thing(3) = 1; thing(2) = 2; thing(0) = 3; put(0, 2) = NONE; put(1, 3) = NONE",
                "put(2, 3) = NONE; set(0, 2, 1) = 0; set(0, 3, 1) = 0; sees(1, 0) = 1; hears(1) = 0; held(2, 0) = 0",
                "told(2, 3) = 1; told(3, 4) = 3; take(1, 0) = 1; told(1, 3) = 1; held(1, 0) = 0; give(1, 0, 2) = 1",
                "scope(1, 0) = 0; take(1, 0) = 1; drop(1, 0) = 1; told(0, 1) = 3; held(3, 0) = 0; put(2, 0) = UNKNOWN");
        RUNS.run("the eighth of a holder", "thing(4) = 0; thing(2) = 1; put(0, 1) = NONE;" + Runs.lumpsIn(1, 2, 7),
                "told(1, 3) = 8; thing(4) = 9; put(9, 1) = ROOM; put(0, -1) = 1; put(9, 1) = NONE; put(0, 1) = ROOM");
    }

    private static void theLastNumberOfEachSort() {
        RUNS.run("a room", things(4, 0, 27), "thing(3) = 27; thing(0) = 28; thing(0) = 29; door(29, 28) = 0; turn(0, 0, 1) = 0",
                "put(27, 28) = NONE; go(27, 0) = 29; told(27, 2) = 29; set(28, 2, 3) = 0; set(28, 3, 2) = 0",
                "space(29, 0) = 1; space(29, 1) = 1; loses(29, 28, 0) = 2; loses(28, 29, 1) = 1; sees(27, 28) = 1",
                "sees(27, 29) = 1; hears(27) = 28; barrier(27, 29) = NONE; barrier(27, 28) = APART; scope(27, 0) = 28",
                "scope(27, 1) = 29; scope(27, 2) = NONE");
        RUNS.run("a box", "thing(0) = 0; thing(3) = 1;" + things(4, 2, 27), "thing(1) = 29; put(1, 0) = NONE",
                "put(29, 0) = NONE; put(28, 29) = NONE; told(28, 2) = 29; held(29, 0) = 28; set(28, 2, 1) = 0",
                "sees(1, 28) = 0; barrier(1, 28) = 29; set(29, 0, 1) = 0; sees(1, 28) = 1; space(29, 0) = 1",
                "loses(29, 0, 1) = 0; take(1, 28) = 1; give(1, 28, 29) = 1; take(1, 29) = 1");
        RUNS.run("a shelf", "thing(0) = 0; thing(3) = 1;" + things(4, 2, 27), "thing(2) = 29; put(1, 0) = NONE",
                "put(29, 0) = NONE; put(28, 29) = NONE; take(1, 28) = 1; give(1, 28, 29) = 1; held(29, 0) = 28",
                "scope(1, 1) = 28; scope(1, 2) = 29");
        RUNS.run("a person", "thing(0) = 0;" + things(4, 1, 28), "thing(3) = 29; put(29, 0) = NONE; put(28, 0) = NONE",
                "put(27, 28) = UNKNOWN; take(29, 28) = 1; take(29, 28) = 0; drop(29, 28) = 1; set(28, 3, 1) = 0",
                "hears(29) = 28; scope(29, 1) = 28; sees(29, 29) = 0; barrier(29, 29) = NONE; barrier(29, 28) = NONE",
                "barrier(29, 27) = APART");
        RUNS.run("a lump", "thing(0) = 0; thing(3) = 1; thing(2) = 2;" + things(4, 3, 27), "put(1, 0) = NONE",
                "put(2, 0) = NONE; put(29, 2) = NONE; set(29, 2, 9) = 0; set(29, 3, 9) = 0; space(0, 0) = 9",
                "space(0, 1) = 9; sees(1, 29) = 1; hears(1) = 29; take(1, 29) = 1; give(1, 29, 2) = 1; held(2, 0) = 29",
                "scope(1, 2) = 29; scope(1, 3) = NONE");
    }

    private static void tenDoors() {
        String nine = "door(0, 1) = 0; door(0, 1) = 1; door(1, 0) = 2; door(0, 1) = 3; door(0, 1) = 4;"
                + "door(0, 1) = 5; door(0, 1) = 6; door(0, 1) = 7; door(0, 1) = 8;";
        RUNS.run("6 ten, no more", "thing(0) = 0; thing(0) = 1; thing(0) = 2; thing(3) = 3;" + nine,
                "count(1) = 9; turn(9, 0, 1) = UNKNOWN; door(1, 2) = 9; count(1) = 10; door(0, 1) = ROOM",
                "door(0, 2) = ROOM; count(1) = 10; put(3, 2) = NONE; turn(9, 0, 1) = 0; turn(9, 0, 1) = 1; go(3, 9) = 1",
                "go(3, 9) = 2; loses(2, 0, 1) = 4; loses(1, 2, 0) = 2; turn(10, 0, 1) = UNKNOWN; go(3, 10) = UNKNOWN",
                "set(1, 2, 1) = 0; sees(3, 1) = 1");
        RUNS.run("3 ten again, as new", "thing(0) = 0; thing(0) = 1;" + nine, "door(1, 0) = 9; turn(9, 0, 1) = 0",
                "turn(9, 1, 1) = 0; clear() = 2",
                "count(1) = 0; turn(9, 0, 0) = UNKNOWN; thing(0) = 0; thing(0) = 1; loses(0, 1, 1) = NONE;" + nine,
                "door(1, 0) = 9; door(1, 0) = ROOM; turn(9, 0, 0) = 0; turn(9, 1, 0) = 0; loses(0, 1, 0) = NONE",
                "loses(0, 1, 1) = 3");
        RUNS.run("6 what is refused is not counted", "thing(0) = 0; thing(0) = 1;" + nine,
                "door(0, 0) = OUTSIDE; door(0, 2) = UNKNOWN; count(1) = 9; door(0, 1) = 9");
    }

    private static void eightAtMost() {
        for (int sort = 1; sort <= 3; sort++) {
            RUNS.run("4 eight at most, put", "thing(" + sort + ") = 0;" + Runs.lumpsIn(0, 1, 7), "thing(4) = 8; thing(4) = 9",
                    "told(0, 3) = 7; put(8, 0) = NONE; told(0, 3) = 8; put(9, 0) = ROOM; told(9, 1) = NONE",
                    "told(0, 3) = 8; held(0, 7) = 8; held(0, 8) = NONE; put(8, 0) = 0; put(1, -1) = 0; put(9, 0) = NONE",
                    "put(1, 0) = ROOM; told(0, 3) = 8");
        }
        RUNS.run("4 what is within is not counted: only what it holds itself", "thing(1) = 0;" + things(1, 1, 2),
                "put(1, 0) = NONE; put(2, 0) = NONE;" + Runs.lumpsIn(1, 3, 8), Runs.lumpsIn(2, 11, 8), Runs.lumpsIn(0, 19, 6),
                "told(0, 3) = 8; told(0, 4) = 24; thing(4) = 25; put(25, 0) = ROOM; put(25, 1) = ROOM; put(25, 2) = ROOM");
        String hands = "thing(0) = 0; thing(3) = 1; put(1, 0) = NONE;" + Runs.lumpsIn(1, 2, 7);
        RUNS.run("8 the eighth, not the ninth", hands, Runs.lumpsIn(0, 9, 2), "take(1, 9) = 1; told(1, 3) = 8",
                "take(1, 10) = ROOM; told(10, 1) = 0; take(1, 9) = 0; drop(1, 9) = 1; take(1, 10) = 1; take(1, 9) = ROOM");
        RUNS.run("8 what is in what it has is one more", hands, "thing(2) = 9; put(9, 1) = NONE; thing(4) = 10",
                "put(10, 9) = NONE; take(1, 10) = ROOM; told(10, 1) = 9; drop(1, 2) = 1; take(1, 10) = 1");
        RUNS.run("9 the eighth, not the ninth", "thing(0) = 0; thing(3) = 1; thing(2) = 2; put(1, 0) = NONE; put(2, 0) = NONE",
                Runs.lumpsIn(2, 3, 7), Runs.lumpsIn(1, 10, 2), "give(1, 10, 2) = 1; told(2, 3) = 8; give(1, 11, 2) = ROOM",
                "told(11, 1) = 1; take(1, 3) = 1; give(1, 11, 2) = 1");
        RUNS.run("9 onto a shelf that the person is on", "thing(2) = 0; thing(3) = 1",
                "put(1, 0) = NONE;" + Runs.lumpsIn(0, 2, 6),
                Runs.lumpsIn(1, 8, 2), "told(0, 3) = 7; give(1, 8, 0) = 1; told(0, 3) = 8; give(1, 9, 0) = ROOM",
                "told(9, 1) = 1");
        RUNS.run("10 the eighth, not the ninth", "thing(1) = 0; thing(3) = 1; put(1, 0) = NONE;" + Runs.lumpsIn(0, 2, 6),
                Runs.lumpsIn(1, 8, 2), "drop(1, 8) = 1; told(0, 3) = 8; drop(1, 9) = ROOM; told(9, 1) = 1; put(8, -1) = 0",
                "drop(1, 9) = 1");
    }

    private static void aRoomHasAnyNumber() {
        RUNS.run("4 put", "thing(0) = 0;" + Runs.lumpsIn(0, 1, 29), "told(0, 3) = 29; told(0, 4) = 29; held(0, 28) = 29",
                "held(0, 29) = NONE");
        RUNS.run("10 drop", "thing(0) = 0; thing(3) = 1; put(1, 0) = NONE;" + Runs.lumpsIn(0, 2, 27), Runs.lumpsIn(1, 29, 1),
                "told(0, 3) = 28; drop(1, 29) = 1; told(0, 3) = 29; take(1, 29) = 1; take(1, 2) = 1; drop(1, 2) = 1");
        RUNS.run("11 go", "thing(0) = 0; thing(0) = 1; thing(3) = 2; put(2, 0) = NONE; door(0, 1) = 0; turn(0, 0, 1) = 0",
                Runs.lumpsIn(1, 3, 27), "go(2, 0) = 1; told(1, 3) = 28; told(0, 3) = 0; held(1, 0) = 2");
    }

    private static void noThingIsWithinItself() {
        RUNS.run("4 the longest ring", "thing(1) = 0;" + chain(1, 1, 29), "told(0, 4) = 29; told(29, 4) = 0; told(28, 4) = 1",
                "put(0, 29) = RING; put(0, 0) = RING; put(0, 1) = RING; put(1, 29) = RING; put(28, 29) = RING",
                "put(29, 0) = 28; put(28, 29) = 27; put(0, 28) = RING; told(0, 1) = NONE; told(0, 4) = 29");
        RUNS.run("4 beside one another there is no ring", "thing(2) = 0; thing(2) = 1; thing(2) = 2; put(1, 0) = NONE",
                "put(2, 0) = NONE; put(1, 2) = 0; put(2, 1) = RING; put(1, 0) = 2; put(2, 1) = 0; put(1, -1) = 0",
                "put(0, 2) = NONE; put(1, 0) = RING");
        RUNS.run("4 none again and again", "thing(4) = 0; put(0, -1) = NONE; put(0, -1) = NONE; put(0, -2) = UNKNOWN",
                "told(0, 1) = NONE");
    }

    private static void levels() {
        for (int what = 2; what <= 3; what++) {
            String set = "set(0, " + what + ", ";
            String told = "told(0, " + (what + 5) + ") = ";
            RUNS.run("5 from 0 to 9",
                    "thing(0) = 0;" + set + "0) = 0;" + set + "9) = 0;" + told + "9;" + set + "10) = OUTSIDE;" + told + "9",
                    set + "0) = 9;" + told + "0;" + set + "-1) = OUTSIDE;" + told + "0;" + set + "1) = 0;" + set + "8) = 1;",
                    told + "8",
                    "space(0, " + (what - 2) + ") = 8; space(0, " + (3 - what) + ") = 0");
        }
    }

    private static void whatHasNoSpace() {
        RUNS.run("13 none without holder; a room itself", "thing(0) = 0; thing(1) = 1; thing(2) = 2; thing(3) = 3",
                "thing(4) = 4; told(0, 2) = 0; told(1, 2) = NONE; told(2, 2) = NONE; told(3, 2) = NONE; told(4, 2) = NONE",
                "put(4, 3) = NONE; put(3, 2) = NONE; told(4, 2) = NONE; put(2, 1) = NONE; told(4, 2) = 1; told(3, 2) = 1",
                "told(2, 2) = 1; told(1, 2) = NONE; put(2, 0) = 1; told(4, 2) = 0");
        RUNS.run("13 the longest chain to a space", "thing(0) = 0;" + chain(2, 1, 29), "told(29, 2) = 0; told(1, 2) = 0",
                "told(0, 4) = 29; set(29, 2, 4) = 0; set(29, 3, 6) = 0; space(0, 0) = 4; space(0, 1) = 6; put(1, -1) = 0",
                "told(29, 2) = NONE; space(0, 0) = 0");
        RUNS.run("15 without space neither light nor sound counts", "thing(1) = 0; thing(4) = 1; set(0, 2, 9) = 0",
                "set(0, 3, 9) = 0; set(0, 0, 1) = 0; set(1, 2, 9) = 0; set(1, 3, 9) = 0; space(0, 0) = 0; space(0, 1) = 0",
                "put(1, 0) = NONE; space(0, 0) = 9; space(0, 1) = 9");
        RUNS.run("16 a box without space has no wall", "thing(0) = 0; thing(1) = 1; set(1, 0, 1) = 0; loses(0, 1, 0) = NONE",
                "loses(1, 0, 1) = NONE; loses(1, 1, 0) = 0; loses(1, 1, 1) = 0; put(1, 0) = NONE; loses(0, 1, 0) = 0",
                "loses(1, 0, 1) = 0");
        RUNS.run("17 both must have a space", "thing(0) = 0; thing(3) = 1; thing(4) = 2; set(0, 2, 9) = 0; set(2, 2, 9) = 0",
                "sees(1, 2) = 0; sees(1, 0) = 0; put(2, 0) = NONE; sees(1, 2) = 0; put(1, 0) = NONE; sees(1, 2) = 1",
                "put(2, -1) = 0; sees(1, 2) = 0; sees(1, 0) = 1");
        RUNS.run("17 in the hands of one without space", "thing(3) = 0; thing(3) = 1; thing(4) = 2; put(1, 0) = NONE",
                "put(2, 0) = NONE; set(2, 2, 9) = 0; sees(0, 2) = 0; sees(1, 2) = 0; barrier(1, 2) = NONE",
                "scope(1, 0) = 0; scope(1, 1) = 2; scope(0, 0) = 1; scope(0, 1) = 2");
        RUNS.run("20 both must have a space", "thing(0) = 0; thing(3) = 1; thing(4) = 2; set(0, 3, 9) = 0; set(2, 3, 9) = 0",
                "hears(1) = NONE; put(1, 0) = NONE; hears(1) = 0; set(0, 3, 0) = 9; hears(1) = NONE; put(2, 1) = NONE",
                "hears(1) = 2; put(1, -1) = 0; hears(1) = NONE");
    }

    private static void wallsAndDoors() {
        String both = "thing(0) = 0; thing(0) = 1; thing(1) = 2; put(2, 0) = NONE; door(0, 1) = 0;";
        RUNS.run("16 neither open nor clear", both, "loses(0, 2, 0) = NONE; loses(2, 0, 0) = NONE; loses(0, 2, 1) = 2",
                "loses(2, 0, 1) = 2; loses(0, 1, 0) = NONE; loses(1, 0, 0) = NONE; loses(0, 1, 1) = 3; loses(1, 0, 1) = 3");
        RUNS.run("16 clear alone", both, "set(2, 1, 1) = 0; turn(0, 1, 1) = 0; loses(0, 2, 0) = 1; loses(2, 0, 0) = 1",
                "loses(0, 2, 1) = 2; loses(0, 1, 0) = 3; loses(1, 0, 0) = 3; loses(0, 1, 1) = 3; loses(2, 1, 0) = 4",
                "loses(1, 2, 1) = 5");
        RUNS.run("16 open alone", both, "set(2, 0, 1) = 0; turn(0, 0, 1) = 0; loses(0, 2, 0) = 0; loses(2, 0, 0) = 0",
                "loses(0, 2, 1) = 0; loses(0, 1, 0) = 2; loses(1, 0, 0) = 2; loses(0, 1, 1) = 1; loses(1, 0, 1) = 1",
                "loses(2, 1, 0) = 2; loses(1, 2, 1) = 1");
        RUNS.run("16 open and clear", both, "set(2, 0, 1) = 0; set(2, 1, 1) = 0; turn(0, 0, 1) = 0; turn(0, 1, 1) = 0",
                "loses(0, 2, 0) = 0; loses(2, 0, 1) = 0; loses(0, 1, 0) = 2; loses(1, 0, 1) = 1");
        RUNS.run("16 to the same one 0, even if all is shut", both, "loses(0, 0, 0) = 0; loses(1, 1, 1) = 0",
                "loses(2, 2, 0) = 0; loses(2, 2, 1) = 0");
        RUNS.run("16 the longest way through walls", "thing(0) = 0;" + chain(1, 1, 29), "loses(0, 29, 1) = 58",
                "loses(29, 0, 1) = 58; loses(29, 0, 0) = NONE");
        RUNS.run("16 between rooms without a door it never comes", "thing(0) = 0; thing(0) = 1; loses(0, 1, 0) = NONE",
                "loses(0, 1, 1) = NONE");
    }

    private static void brightAndLoudAtLeastNothing() {
        String light = "thing(0) = 0; thing(0) = 1; thing(1) = 2; thing(4) = 3; put(2, 0) = NONE; put(3, 2) = NONE;"
                + "door(0, 1) = 0; set(2, 1, 1) = 0; turn(0, 1, 1) = 0;";
        RUNS.run("15 light that is all lost, or all but one", light, "set(3, 2, 1) = 0; space(2, 0) = 1; space(0, 0) = 0",
                "space(1, 0) = 0; set(3, 2, 2) = 1; space(0, 0) = 1; space(1, 0) = 0; set(3, 2, 4) = 2; space(0, 0) = 3",
                "space(1, 0) = 0; set(3, 2, 5) = 4; space(1, 0) = 1; set(3, 2, 0) = 5; space(2, 0) = 0; space(0, 0) = 0",
                "space(1, 0) = 0");
        RUNS.run("15 sound that is all lost, or all but one", light, "set(3, 3, 2) = 0; space(2, 1) = 2; space(0, 1) = 0",
                "set(3, 3, 3) = 2; space(0, 1) = 1; space(1, 1) = 0; set(3, 3, 5) = 3; space(0, 1) = 3; space(1, 1) = 0",
                "set(3, 3, 6) = 5; space(1, 1) = 1; set(3, 3, 0) = 6; space(2, 1) = 0");
        RUNS.run("15 over as many doors as nine lasts", things(0, 0, 11), "door(0, 1) = 0; door(1, 2) = 1; door(2, 3) = 2",
                "door(3, 4) = 3; door(4, 5) = 4; door(5, 6) = 5; door(6, 7) = 6; door(7, 8) = 7; door(8, 9) = 8",
                "door(9, 10) = 9; set(0, 2, 9) = 0; set(0, 3, 9) = 0",
                Runs.eachFrom("turn(?, 0, 1) = 0", 0, 9), "space(4, 0) = 1",
                "space(5, 0) = 0; space(8, 1) = 1; space(9, 1) = 0; space(10, 1) = 0; loses(0, 10, 0) = 20",
                "loses(0, 10, 1) = 10");
        RUNS.run("15 the greatest of like ones is no sum", "thing(0) = 0;" + Runs.lumpsIn(0, 1, 3), "set(1, 2, 9) = 0",
                "set(2, 2, 9) = 0; set(0, 2, 9) = 0; set(1, 3, 4) = 0; set(2, 3, 4) = 0; set(3, 3, 3) = 0",
                "space(0, 0) = 9; space(0, 1) = 4");
    }

    private static void oneDoorAtMost() {
        String rooms = things(0, 0, 3) + "thing(3) = 3; put(3, 0) = NONE; set(0, 2, 9) = 0;"
                + "set(1, 2, 9) = 0; set(2, 2, 9) = 0;";
        RUNS.run("17 no door, one, two", rooms, "door(0, 1) = 0; door(1, 2) = 1; turn(0, 0, 1) = 0; turn(1, 0, 1) = 0",
                "sees(3, 0) = 1; sees(3, 1) = 1; sees(3, 2) = 0; loses(0, 2, 0) = 4; put(3, 1) = 0; sees(3, 0) = 1",
                "sees(3, 2) = 1");
        RUNS.run("17 two doors, the second told first", rooms, "door(2, 1) = 0; door(1, 0) = 1; turn(0, 0, 1) = 0",
                "turn(1, 0, 1) = 0; sees(3, 1) = 1; sees(3, 2) = 0");
        RUNS.run("17 two doors and walls between them", rooms, "door(0, 1) = 0; door(1, 2) = 1; turn(0, 1, 1) = 0",
                "turn(1, 1, 1) = 0; thing(1) = 4; thing(4) = 5; put(4, 1) = NONE; put(5, 4) = NONE; set(4, 1, 1) = 0",
                "sees(3, 5) = 1; put(4, 2) = 1; sees(3, 5) = 0; put(4, 0) = 2; sees(3, 5) = 1");
        RUNS.run("17 walls alone, as many as there are", "thing(0) = 0; thing(3) = 1; thing(1) = 2; put(1, 0) = NONE",
                "put(2, 0) = NONE;" + chain(1, 3, 26),
                Runs.eachFrom("set(?, 1, 1) = 0", 2, 28),
                "thing(4) = 29; put(29, 28) = NONE; set(29, 2, 1) = 0; sees(1, 29) = 1; loses(0, 28, 0) = 27",
                "space(28, 0) = 1; space(27, 0) = 0; sees(1, 28) = 0; sees(1, 0) = 0; set(2, 1, 0) = 1; sees(1, 29) = 0");
    }

    private static void seesInTheDark() {
        String some = "thing(0) = 0; thing(3) = 1; thing(4) = 2; put(1, 0) = NONE; put(2, 0) = NONE;";
        RUNS.run("17 no light at all, a light of 1", some, "sees(1, 2) = 0; sees(1, 0) = 0; set(2, 2, 1) = 0; sees(1, 2) = 1",
                "sees(1, 0) = 1; set(2, 2, 0) = 1; set(1, 2, 1) = 0; sees(1, 2) = 1; sees(1, 1) = 0");
        RUNS.run("17 itself never", some, "set(0, 2, 9) = 0; set(1, 2, 9) = 0; sees(1, 1) = 0; scope(1, 0) = 0",
                "scope(1, 1) = 2; scope(1, 2) = NONE");
        RUNS.run("17 a lit thing in a dark place that light passes", some, "thing(1) = 3; put(3, 0) = NONE; put(2, 3) = 0",
                "set(3, 1, 1) = 0; set(2, 2, 1) = 0; sees(1, 2) = 1; sees(1, 3) = 0; set(3, 1, 0) = 1; sees(1, 2) = 0",
                "set(3, 0, 1) = 0; sees(1, 2) = 1; sees(1, 3) = 1");
    }

    private static void theWayOut() {
        String boxes = "thing(0) = 0; thing(1) = 1; thing(1) = 2; thing(3) = 3; thing(4) = 4;"
                + "put(1, 0) = NONE; put(2, 1) = NONE; put(3, 2) = NONE;";
        RUNS.run("18 out of both, out of one, out of none", boxes, "put(4, 0) = NONE; barrier(3, 4) = 2; set(2, 0, 1) = 0",
                "barrier(3, 4) = 1; put(4, 1) = 0; barrier(3, 4) = NONE; set(2, 0, 0) = 1; barrier(3, 4) = 2",
                "put(4, 2) = 1; barrier(3, 4) = NONE; put(4, 3) = 2; barrier(3, 4) = NONE");
        RUNS.run("18 clear does not open", boxes, "put(4, 0) = NONE; set(1, 1, 1) = 0; set(2, 1, 1) = 0; barrier(3, 4) = 2",
                "take(3, 4) = BARRED");
        RUNS.run("18 out of hands nothing bars", "thing(0) = 0; thing(3) = 1; thing(3) = 2; thing(2) = 3; thing(4) = 4",
                "put(1, 0) = NONE; put(3, 1) = NONE; put(2, 3) = NONE; put(4, 0) = NONE; barrier(2, 4) = NONE",
                "take(2, 4) = 1; drop(2, 4) = 1; told(4, 1) = 3; barrier(2, 4) = NONE");
        RUNS.run("18 the first that has both within it is left out", boxes, "put(4, 2) = NONE; barrier(3, 4) = NONE",
                "take(3, 4) = 1; put(4, 1) = 3; set(2, 0, 1) = 0; take(3, 4) = 1");
        RUNS.run("18 on one shelf in a shut box", "thing(0) = 0; thing(1) = 1; thing(2) = 2; thing(3) = 3; thing(4) = 4",
                "put(1, 0) = NONE; put(2, 1) = NONE; put(3, 2) = NONE; put(4, 2) = NONE; barrier(3, 4) = NONE",
                "barrier(3, 2) = NONE; barrier(3, 1) = NONE; barrier(3, 0) = 1; put(4, 1) = 2; barrier(3, 4) = NONE",
                "put(4, 0) = 1; barrier(3, 4) = 1");
        RUNS.run("18 the longest way out", "thing(0) = 0;" + chain(1, 1, 28), Runs.eachFrom("set(?, 0, 1) = 0", 2, 28),
                "thing(3) = 29; put(29, 28) = NONE; barrier(29, 0) = 1; barrier(29, 1) = NONE; set(1, 0, 1) = 0",
                "barrier(29, 0) = NONE; scope(29, 28) = 28; scope(29, 29) = NONE; take(29, 1) = RING");
    }

    private static void theWayIn() {
        RUNS.run("18 into boxes and hands, the outermost first", "thing(0) = 0; thing(3) = 1; thing(1) = 2; thing(3) = 3",
                "thing(1) = 4; thing(4) = 5; put(1, 0) = NONE; put(2, 0) = NONE; put(3, 2) = NONE; put(4, 3) = NONE",
                "put(5, 4) = NONE; barrier(1, 2) = NONE; barrier(1, 3) = 2; barrier(1, 4) = 2; barrier(1, 5) = 2",
                "set(2, 0, 1) = 0; barrier(1, 3) = NONE; barrier(1, 4) = 3; barrier(1, 5) = 3; set(4, 0, 1) = 0",
                "barrier(1, 5) = 3; put(4, 2) = 3; barrier(1, 5) = NONE");
        RUNS.run("18 in its own hands: all between them", "thing(3) = 0; thing(1) = 1; thing(1) = 2; thing(4) = 3",
                "put(1, 0) = NONE; put(2, 1) = NONE; put(3, 2) = NONE; barrier(0, 1) = NONE; barrier(0, 2) = 1",
                "barrier(0, 3) = 1; set(1, 0, 1) = 0; barrier(0, 2) = NONE; barrier(0, 3) = 2; take(0, 3) = BARRED",
                "set(2, 0, 1) = 0; barrier(0, 3) = NONE; take(0, 3) = 1; take(0, 3) = 0");
        RUNS.run("18 in hands within its own hands", "thing(3) = 0; thing(3) = 1; thing(4) = 2; put(1, 0) = NONE",
                "put(2, 1) = NONE; barrier(0, 1) = NONE; barrier(0, 2) = 1; barrier(1, 2) = NONE; barrier(1, 0) = NONE",
                "give(1, 2, 0) = 1; barrier(1, 2) = NONE; take(1, 2) = 1");
        RUNS.run("18 to the shut box itself, not into it", "thing(0) = 0; thing(3) = 1; thing(1) = 2; put(1, 0) = NONE",
                "put(2, 0) = NONE; barrier(1, 2) = NONE; take(1, 2) = 1; barrier(1, 2) = NONE");
        RUNS.run("18 the longest way in", "thing(3) = 0;" + chain(1, 1, 29), "barrier(0, 29) = 1; barrier(0, 1) = NONE",
                "set(1, 0, 1) = 0; barrier(0, 29) = 2",
                Runs.eachFrom("set(?, 0, 1) = 0", 2, 27), "barrier(0, 29) = 28",
                "set(28, 0, 1) = 0; barrier(0, 29) = NONE; take(0, 29) = 1; told(0, 3) = 2; give(0, 29, 28) = 1",
                "told(29, 1) = 28");
    }

    private static void theWayToWhatItIsWithin() {
        RUNS.run("18 it does not lead out of that", "thing(0) = 0; thing(1) = 1; thing(1) = 2; thing(3) = 3",
                "put(1, 0) = NONE; put(2, 1) = NONE; put(3, 2) = NONE; barrier(3, 2) = NONE; barrier(3, 1) = 2",
                "barrier(3, 0) = 2; set(2, 0, 1) = 0; barrier(3, 1) = NONE; barrier(3, 0) = 1; set(1, 0, 1) = 0",
                "barrier(3, 0) = NONE");
        RUNS.run("19 the shut box around it is in reach, and no more", "thing(0) = 0; thing(1) = 1; thing(3) = 2",
                "put(1, 0) = NONE; put(2, 1) = NONE; scope(2, 0) = 1; scope(2, 1) = NONE; set(1, 0, 1) = 0",
                "scope(2, 0) = 0; scope(2, 1) = 1; scope(2, 2) = NONE");
        RUNS.run("9 into the box around it", "thing(1) = 0; thing(3) = 1; thing(4) = 2; put(1, 0) = NONE; put(2, 1) = NONE",
                "give(1, 2, 0) = BARRED; set(0, 0, 1) = 0; give(1, 2, 0) = 1; told(2, 1) = 0; take(1, 2) = 1",
                "set(0, 0, 0) = 1; drop(1, 2) = 1; told(2, 1) = 0; take(1, 2) = 1");
        RUNS.run("18 itself", "thing(3) = 0; barrier(0, 0) = NONE; sees(0, 0) = 0; scope(0, 0) = NONE; thing(1) = 1",
                "put(0, 1) = NONE; barrier(0, 0) = NONE");
    }

    private static void noWay() {
        RUNS.run("18 where nothing has both within it", "thing(0) = 0; thing(0) = 1; thing(3) = 2; thing(4) = 3",
                "barrier(2, 3) = APART; barrier(2, 0) = APART; put(2, 0) = NONE; barrier(2, 3) = APART",
                "barrier(2, 1) = APART; barrier(2, 0) = NONE; put(3, 1) = NONE; barrier(2, 3) = APART; door(0, 1) = 0",
                "turn(0, 0, 1) = 0; barrier(2, 3) = APART; barrier(2, 1) = APART; put(3, 0) = 1; barrier(2, 3) = NONE",
                "put(2, -1) = 0; barrier(2, 3) = APART");
        RUNS.run("18 in a box that is nowhere there is a way", "thing(1) = 0; thing(3) = 1; thing(4) = 2; put(1, 0) = NONE",
                "put(2, 0) = NONE; barrier(1, 2) = NONE; take(1, 2) = 1; put(2, -1) = 1; barrier(1, 2) = APART",
                "take(1, 2) = APART");
        RUNS.run("18 on a shelf that is nowhere, too", "thing(2) = 0; thing(3) = 1; thing(4) = 2; put(1, 0) = NONE",
                "put(2, 0) = NONE; barrier(1, 2) = NONE; take(1, 2) = 1");
        RUNS.run("19 without a way, but in sight", "thing(0) = 0; thing(0) = 1; thing(3) = 2; put(2, 0) = NONE",
                "door(0, 1) = 0; turn(0, 1, 1) = 0; set(1, 2, 1) = 0; barrier(2, 1) = APART; sees(2, 1) = 1",
                "scope(2, 0) = 0; scope(2, 1) = 1; scope(2, 2) = NONE; turn(0, 1, 0) = 1; scope(2, 1) = NONE");
    }

    private static void theFirstAndLastOfLists() {
        RUNS.run("14 empty; the first, the last, one more, one less", "thing(2) = 0; held(0, 0) = NONE",
                "held(0, -1) = NONE;" + Runs.lumpsIn(0, 1, 8),
                "held(0, 0) = 1; held(0, 7) = 8; held(0, 8) = NONE; held(0, -1) = NONE; held(0, 32) = NONE",
                "held(0, 256) = NONE; held(0, MAX) = NONE; held(0, MIN) = NONE");
        RUNS.run("14 only what has it as holder itself", "thing(0) = 0; thing(2) = 1; thing(4) = 2; put(1, 0) = NONE",
                "put(2, 1) = NONE; held(0, 0) = 1; held(0, 1) = NONE; held(2, 0) = NONE; put(2, -1) = 1",
                "held(1, 0) = NONE");
        RUNS.run("14 by numbers, not by time", "thing(0) = 0;" + things(4, 1, 3), "put(3, 0) = NONE; put(1, 0) = NONE",
                "put(2, 0) = NONE; held(0, 0) = 1; held(0, 1) = 2; held(0, 2) = 3");
        RUNS.run("19 empty; the first, the last, one more, one less", "thing(0) = 0; thing(3) = 1; scope(1, 0) = NONE",
                "scope(1, -1) = NONE; put(1, 0) = NONE",
                Runs.lumpsIn(0, 2, 28), "scope(1, 0) = 0; scope(1, 1) = 2; scope(1, 28) = 29; scope(1, 29) = NONE",
                "scope(1, 30) = NONE; scope(1, -1) = NONE; scope(1, 32) = NONE; scope(1, 256) = NONE",
                "scope(1, MAX) = NONE; scope(1, MIN) = NONE");
        RUNS.run("19 what it both sees and reaches is told once", "thing(0) = 0; thing(3) = 1; thing(4) = 2",
                "put(1, 0) = NONE; put(2, 0) = NONE; set(0, 2, 9) = 0; scope(1, 0) = 0; scope(1, 1) = 2",
                "scope(1, 2) = NONE");
    }

    private static void hearsNothing() {
        RUNS.run("20 all lost, or all but one", "thing(0) = 0; thing(3) = 1; thing(1) = 2; thing(4) = 3; put(1, 0) = NONE",
                "put(2, 0) = NONE; put(3, 2) = NONE; hears(1) = NONE; set(3, 3, 2) = 0; hears(1) = NONE; set(3, 3, 3) = 2",
                "hears(1) = 3; set(3, 3, 1) = 3; hears(1) = NONE; set(2, 0, 1) = 0; hears(1) = 3");
        RUNS.run("20 only itself", "thing(0) = 0; thing(3) = 1; put(1, 0) = NONE; set(1, 3, 9) = 0; hears(1) = NONE",
                "space(0, 1) = 9; thing(4) = 2; put(2, 1) = NONE; set(2, 3, 1) = 0; hears(1) = 2");
        RUNS.run("20 of like ones the least number", "thing(0) = 0; thing(3) = 1;" + things(4, 2, 28), "put(1, 0) = NONE",
                "put(29, 0) = NONE; put(28, 0) = NONE; put(15, 1) = NONE; set(29, 3, 5) = 0; hears(1) = 29",
                "set(28, 3, 5) = 0; hears(1) = 28; set(15, 3, 5) = 0; hears(1) = 15; set(29, 3, 6) = 5; hears(1) = 29",
                "set(0, 3, 6) = 0; hears(1) = 0");
        RUNS.run("20 alike only after the loss", "thing(0) = 0; thing(3) = 1; thing(4) = 2; thing(1) = 3; thing(4) = 4",
                "put(1, 0) = NONE; put(2, 0) = NONE; put(3, 0) = NONE; put(4, 3) = NONE; set(2, 3, 7) = 0",
                "set(4, 3, 9) = 0; hears(1) = 2; set(2, 3, 6) = 7; hears(1) = 4; put(1, 3) = 0; hears(1) = 4");
    }
}
