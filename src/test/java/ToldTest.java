/** Promises 12 to 20: what is told. */
public final class ToldTest {
    private static final Runs RUNS = new Runs();

    public static void main(String[] args) {
        promise12Count();
        promise13Told();
        promise14Held();
        promise15Bright();
        promise15Loud();
        promise16LosesLight();
        promise16LosesSound();
        promise17Sees();
        promise17SeesOverDoors();
        promise18BarrierOut();
        promise18BarrierIn();
        promise19Scope();
        promise20Hears();
        RUNS.end();
    }

    private static void promise12Count() {
        RUNS.run("12 things and doors", "count(0) = 0; count(1) = 0; thing(0) = 0; count(0) = 1; thing(0) = 1; count(0) = 2",
                "count(1) = 0; door(0, 1) = 0; count(1) = 1; count(0) = 2; thing(5) = OUTSIDE; count(0) = 2");
        RUNS.run("12 outside", "count(2) = OUTSIDE; count(-1) = OUTSIDE; count(MIN) = OUTSIDE; count(MAX) = OUTSIDE");
    }

    private static void promise13Told() {
        String some = "thing(0) = 0; thing(1) = 1; thing(2) = 2; thing(3) = 3; thing(4) = 4;"
                + "put(1, 0) = NONE; put(2, 1) = NONE; put(3, 2) = NONE; put(4, 3) = NONE;";
        RUNS.run("13 holder and space", some,
                "told(0, 1) = NONE; told(1, 1) = 0; told(2, 1) = 1; told(3, 1) = 2; told(4, 1) = 3",
                "told(0, 2) = 0; told(1, 2) = 0; told(2, 2) = 1; told(3, 2) = 1; told(4, 2) = 1");
        RUNS.run("13 the space of what has no holder", some, "put(1, -1) = 0; told(1, 2) = NONE; told(4, 2) = 1",
                "put(2, -1) = 1; told(2, 2) = NONE; told(3, 2) = NONE; told(4, 2) = NONE; told(0, 2) = 0");
        RUNS.run("13 how many", some,
                "told(0, 3) = 1; told(0, 4) = 4; told(1, 3) = 1; told(1, 4) = 3; told(3, 4) = 1; told(4, 3) = 0",
                "told(4, 4) = 0; thing(4) = 5; put(5, 0) = NONE; told(0, 3) = 2; told(0, 4) = 5; told(1, 4) = 3");
        RUNS.run("13 open, clear, light, sound", some, "set(1, 0, 1) = 0; told(1, 5) = 1; told(1, 6) = 0",
                "set(1, 0, 0) = 1; set(1, 1, 1) = 0; told(1, 5) = 0; told(1, 6) = 1",
                "set(4, 2, 3) = 0; set(4, 3, 6) = 0; told(4, 7) = 3; told(4, 8) = 6; told(4, 5) = 0; told(0, 5) = 0");
        RUNS.run("13 unknown, ahead of outside", some, "told(5, 0) = UNKNOWN; told(-1, 0) = UNKNOWN; told(5, 9) = UNKNOWN",
                "told(MIN, 2) = UNKNOWN; told(MAX, 4) = UNKNOWN");
        RUNS.run("13 outside", some, "told(0, 9) = OUTSIDE; told(0, -1) = OUTSIDE; told(4, MIN) = OUTSIDE; told(4, MAX) = OUTSIDE");
    }

    private static void promise14Held() {
        RUNS.run("14 by numbers", "thing(2) = 0; thing(4) = 1; thing(4) = 2; thing(1) = 3; thing(4) = 4; put(4, 0) = NONE",
                "put(3, 0) = NONE; put(1, 0) = NONE; put(2, 3) = NONE; held(0, 0) = 1; held(0, 1) = 3; held(0, 2) = 4",
                "held(0, 3) = NONE; held(3, 0) = 2; held(3, 1) = NONE; held(1, 0) = NONE");
        RUNS.run("14 no such i", "thing(0) = 0; thing(4) = 1; put(1, 0) = NONE; held(0, 1) = NONE; held(0, -1) = NONE",
                "held(0, MIN) = NONE; held(0, MAX) = NONE");
        RUNS.run("14 unknown", "held(0, 0) = UNKNOWN; thing(4) = 0; held(1, 0) = UNKNOWN; held(-1, 0) = UNKNOWN",
                "held(MIN, 0) = UNKNOWN; held(MAX, -1) = UNKNOWN; held(0, 0) = NONE");
    }

    private static void promise15Bright() {
        RUNS.run("15 the greatest, not the sum; of the room itself",
                "thing(0) = 0; thing(4) = 1; thing(4) = 2; put(1, 0) = NONE; put(2, 0) = NONE; space(0, 0) = 0",
                "set(1, 2, 3) = 0; set(2, 2, 5) = 0; space(0, 0) = 5; set(0, 2, 7) = 0; space(0, 0) = 7; space(0, 1) = 0");
        RUNS.run("15 light of a box is outside of it",
                "thing(0) = 0; thing(1) = 1; put(1, 0) = NONE; set(1, 2, 5) = 0; space(0, 0) = 5; space(1, 0) = 0",
                "set(1, 1, 1) = 0; space(1, 0) = 4; set(1, 0, 1) = 0; space(1, 0) = 5; put(1, -1) = 0; space(0, 0) = 0",
                "space(1, 0) = 0");
        RUNS.run("15 out of box in box, over doors", "thing(0) = 0; thing(1) = 1; thing(1) = 2; thing(4) = 3; thing(0) = 4",
                "put(1, 0) = NONE; put(2, 1) = NONE; put(3, 2) = NONE; set(3, 2, 9) = 0; door(4, 0) = 0",
                "space(2, 0) = 9; space(1, 0) = 0; set(2, 1, 1) = 0; space(1, 0) = 8; space(0, 0) = 0; set(1, 1, 1) = 0",
                "space(0, 0) = 7; space(4, 0) = 0; turn(0, 1, 1) = 0; space(4, 0) = 4; turn(0, 0, 1) = 0; space(4, 0) = 5",
                "set(3, 2, 3) = 9; space(0, 0) = 1; space(4, 0) = 0; set(3, 2, 1) = 3; space(0, 0) = 0");
        RUNS.run("15 carried, on a shelf, without space", "thing(0) = 0; thing(3) = 1; thing(2) = 2; thing(4) = 3; put(3, 1) = NONE",
                "set(3, 2, 4) = 0; space(0, 0) = 0; put(1, 2) = NONE; space(0, 0) = 0; put(2, 0) = NONE; space(0, 0) = 4");
        RUNS.run("15 unknown, ahead of outside", "thing(0) = 0; thing(1) = 1; thing(2) = 2; thing(3) = 3; thing(4) = 4",
                "space(2, 0) = UNKNOWN; space(3, 0) = UNKNOWN; space(4, 1) = UNKNOWN; space(5, 0) = UNKNOWN",
                "space(-1, 0) = UNKNOWN; space(MIN, 7) = UNKNOWN; space(4, 7) = UNKNOWN; space(MAX, 1) = UNKNOWN");
        RUNS.run("15 outside", "thing(0) = 0; thing(1) = 1; space(0, 2) = OUTSIDE; space(1, -1) = OUTSIDE",
                "space(0, MIN) = OUTSIDE; space(1, MAX) = OUTSIDE; space(1, 0) = 0; space(1, 1) = 0");
    }

    private static void promise15Loud() {
        RUNS.run("15 sound passes all", "thing(0) = 0; thing(1) = 1; thing(4) = 2; thing(0) = 3; put(1, 0) = NONE",
                "put(2, 1) = NONE; door(0, 3) = 0; set(2, 3, 9) = 0; space(1, 1) = 9; space(0, 1) = 7; space(3, 1) = 4",
                "set(1, 1, 1) = 0; space(0, 1) = 7; set(1, 0, 1) = 0; space(0, 1) = 9; turn(0, 1, 1) = 0; space(3, 1) = 6",
                "turn(0, 0, 1) = 0; space(3, 1) = 8; space(3, 0) = 0; set(2, 3, 1) = 9; space(3, 1) = 0; space(0, 1) = 1");
    }

    private static void promise16LosesLight() {
        String some = "thing(0) = 0; thing(0) = 1; thing(1) = 2; thing(1) = 3; put(2, 0) = NONE; put(3, 2) = NONE; door(0, 1) = 0;";
        RUNS.run("16 light, at walls and doors", some, "loses(0, 0, 0) = 0; loses(2, 2, 0) = 0; loses(0, 2, 0) = NONE",
                "set(2, 1, 1) = 0; loses(0, 2, 0) = 1; loses(2, 0, 0) = 1; set(2, 0, 1) = 0; loses(0, 2, 0) = 0",
                "set(3, 1, 1) = 0; loses(0, 3, 0) = 1; set(2, 0, 0) = 1; loses(3, 0, 0) = 2; loses(0, 1, 0) = NONE",
                "turn(0, 1, 1) = 0; loses(0, 1, 0) = 3; loses(1, 0, 0) = 3; turn(0, 0, 1) = 0; loses(1, 0, 0) = 2",
                "loses(3, 1, 0) = 4; loses(1, 3, 0) = 4; turn(0, 1, 0) = 1; loses(1, 3, 0) = 4");
        RUNS.run("16 the least of two ways", "thing(0) = 0; thing(0) = 1; thing(0) = 2; door(0, 2) = 0; door(0, 1) = 1; door(1, 2) = 2",
                "turn(0, 1, 1) = 0; turn(1, 0, 1) = 0; turn(2, 0, 1) = 0; loses(0, 2, 0) = 3; loses(0, 2, 1) = 2",
                "turn(0, 1, 0) = 1; loses(0, 2, 0) = 4; turn(2, 0, 0) = 1; loses(2, 0, 0) = NONE; loses(2, 0, 1) = 3");
        RUNS.run("16 on a shelf in the room the wall is to the room", "thing(0) = 0; thing(2) = 1; thing(3) = 2; thing(1) = 3",
                "put(1, 0) = NONE; put(2, 1) = NONE; put(3, 2) = NONE; set(3, 1, 1) = 0; loses(3, 0, 0) = 1",
                "put(1, -1) = 0; loses(3, 0, 0) = NONE; loses(3, 0, 1) = NONE; loses(3, 3, 1) = 0");
        RUNS.run("16 unknown, ahead of outside", some, "thing(3) = 4; loses(4, 0, 0) = UNKNOWN; loses(0, 4, 0) = UNKNOWN",
                "loses(5, 0, 0) = UNKNOWN; loses(0, -1, 0) = UNKNOWN; loses(MIN, 0, 9) = UNKNOWN; loses(0, MAX, -9) = UNKNOWN");
        RUNS.run("16 outside", some, "loses(0, 0, 2) = OUTSIDE; loses(0, 1, -1) = OUTSIDE; loses(0, 1, MIN) = OUTSIDE",
                "loses(0, 1, MAX) = OUTSIDE");
    }

    private static void promise16LosesSound() {
        RUNS.run("16 sound, at walls and doors", "thing(0) = 0; thing(0) = 1; thing(1) = 2; put(2, 0) = NONE; door(0, 1) = 0",
                "loses(0, 2, 1) = 2; loses(2, 0, 1) = 2; loses(0, 1, 1) = 3; loses(2, 1, 1) = 5; set(2, 0, 1) = 0",
                "loses(2, 1, 1) = 3; turn(0, 0, 1) = 0; loses(1, 2, 1) = 1; loses(1, 0, 1) = 1; loses(1, 1, 1) = 0");
        StringBuilder far = new StringBuilder("thing(0) = 0; thing(1) = 1; put(1, 0) = NONE;");
        for (int x = 2; x < 30; x++) {
            far.append("thing(1) = ").append(x).append("; put(").append(x).append(", ").append(x - 1).append(") = NONE;");
        }
        RUNS.run("16 as far as can be, beyond what any sound has", far.toString(),
                "loses(0, 29, 1) = 58; loses(29, 0, 1) = 58; loses(0, 29, 0) = NONE; loses(5, 25, 1) = 40");
        StringBuilder rooms = new StringBuilder("thing(0) = 0;");
        for (int x = 1; x < 11; x++) {
            rooms.append("thing(0) = ").append(x).append("; door(").append(x - 1).append(", ").append(x).append(") = ").append(x - 1).append(';');
        }
        RUNS.run("16 over ten shut doors", rooms.toString(), "loses(0, 10, 1) = 30; loses(10, 0, 1) = 30; loses(10, 0, 0) = NONE");
    }

    private static void promise17Sees() {
        RUNS.run("17 in the light", "thing(0) = 0; thing(3) = 1; thing(4) = 2; put(1, 0) = NONE; put(2, 0) = NONE",
                "sees(1, 2) = 0; sees(1, 0) = 0; set(0, 2, 1) = 0; sees(1, 2) = 1; sees(1, 0) = 1; sees(1, 1) = 0",
                "set(0, 2, 0) = 1; set(2, 2, 1) = 0; sees(1, 2) = 1; sees(1, 0) = 1; put(2, 1) = 0; sees(1, 2) = 1; sees(1, 0) = 1");
        RUNS.run("17 without a space", "thing(0) = 0; thing(3) = 1; thing(4) = 2; put(2, 1) = NONE; set(2, 2, 9) = 0; sees(1, 2) = 0",
                "put(1, 0) = NONE; sees(1, 2) = 1; put(2, -1) = 1; sees(1, 2) = 0; put(2, 0) = NONE; sees(1, 2) = 1",
                "set(0, 2, 9) = 0; put(1, -1) = 0; sees(1, 0) = 0; sees(1, 2) = 0");
        RUNS.run("17 from one box without a space into another", "thing(1) = 0; thing(1) = 1; thing(3) = 2; thing(4) = 3",
                "put(2, 0) = NONE; put(3, 1) = NONE; set(0, 0, 1) = 0; set(1, 0, 1) = 0; set(3, 2, 9) = 0; sees(2, 3) = 0",
                "sees(2, 1) = 0; loses(0, 1, 0) = NONE; loses(0, 1, 1) = NONE; put(3, 0) = 1; sees(2, 3) = 1");
        RUNS.run("17 an open box without a space opens no view", "thing(0) = 0; thing(0) = 1; thing(3) = 2; thing(1) = 3",
                "put(2, 1) = NONE; set(0, 2, 9) = 0; set(3, 0, 1) = 0; sees(2, 0) = 0; scope(2, 0) = 1; scope(2, 1) = NONE");
        RUNS.run("17 into 27 boxes", nested(), "sees(1, 29) = 1; space(0, 0) = 1; loses(0, 2, 0) = 0; loses(2, 0, 1) = 0",
                "set(15, 0, 0) = 1; sees(1, 29) = 0; sees(1, 15) = 0; set(1, 2, 1) = 0; sees(1, 15) = 1; sees(1, 14) = 0");
        RUNS.run("17 into a box and out of it",
                "thing(0) = 0; thing(3) = 1; thing(1) = 2; thing(4) = 3; put(1, 0) = NONE; put(2, 0) = NONE; put(3, 2) = NONE",
                "set(0, 2, 5) = 0; sees(1, 2) = 1; sees(1, 3) = 0; set(2, 1, 1) = 0; sees(1, 3) = 1; set(2, 1, 0) = 1",
                "set(2, 0, 1) = 0; sees(1, 3) = 1; set(2, 0, 0) = 1; put(1, 2) = 0; sees(1, 3) = 0; sees(1, 0) = 0",
                "set(2, 1, 1) = 0; sees(1, 3) = 1; sees(1, 0) = 1; sees(1, 2) = 1");
        RUNS.run("17 out of the dark into the light, not the other way",
                "thing(0) = 0; thing(3) = 1; thing(1) = 2; thing(3) = 3; put(1, 0) = NONE; put(2, 0) = NONE; put(3, 2) = NONE",
                "set(2, 1, 1) = 0; set(1, 2, 1) = 0; sees(3, 1) = 1; sees(1, 3) = 0; set(1, 2, 2) = 1; sees(1, 3) = 1");
        RUNS.run("17 unknown", "thing(0) = 0; thing(1) = 1; thing(2) = 2; thing(3) = 3; thing(4) = 4; sees(0, 3) = UNKNOWN",
                "sees(1, 3) = UNKNOWN; sees(2, 3) = UNKNOWN; sees(4, 3) = UNKNOWN; sees(5, 3) = UNKNOWN; sees(-1, 3) = UNKNOWN",
                "sees(3, 5) = UNKNOWN; sees(3, -1) = UNKNOWN; sees(MIN, 3) = UNKNOWN; sees(3, MAX) = UNKNOWN; sees(4, 4) = UNKNOWN",
                "sees(3, 3) = 0; sees(3, 0) = 0");
    }

    /** A ROOM 0 with a PERSON 1 and the BOX 28, in which 27 is, and so on to 2, in which a lit LUMP 29 is; all OPEN. */
    private static String nested() {
        StringBuilder text = new StringBuilder("thing(0) = 0; thing(3) = 1; put(1, 0) = NONE;");
        for (int x = 2; x < 29; x++) {
            text.append("thing(1) = ").append(x).append("; set(").append(x).append(", 0, 1) = 0;");
        }
        for (int x = 2; x < 28; x++) {
            text.append("put(").append(x).append(", ").append(x + 1).append(") = NONE;");
        }
        return text + "put(28, 0) = NONE; thing(4) = 29; put(29, 2) = NONE; set(29, 2, 1) = 0;";
    }

    private static void promise17SeesOverDoors() {
        String three = "thing(0) = 0; thing(0) = 1; thing(0) = 2; thing(3) = 3; put(3, 0) = NONE;"
                + "set(0, 2, 9) = 0; set(1, 2, 9) = 0; set(2, 2, 9) = 0;";
        RUNS.run("17 one door, open or clear", three, "door(1, 0) = 0; sees(3, 1) = 0; turn(0, 1, 1) = 0; sees(3, 1) = 1",
                "turn(0, 1, 0) = 1; turn(0, 0, 1) = 0; sees(3, 1) = 1; sees(3, 2) = 0");
        RUNS.run("17 not two doors, in whatever order they are", three, "door(0, 1) = 0; door(1, 2) = 1; turn(0, 0, 1) = 0",
                "turn(1, 0, 1) = 0; sees(3, 1) = 1; sees(3, 2) = 0; put(3, 2) = 0; sees(3, 1) = 1; sees(3, 0) = 0");
        RUNS.run("17 a second way of one door", three, "door(0, 1) = 0; door(1, 2) = 1; door(2, 0) = 2; turn(0, 0, 1) = 0",
                "turn(1, 0, 1) = 0; sees(3, 2) = 0; turn(2, 1, 1) = 0; sees(3, 2) = 1");
        RUNS.run("17 out of boxes, over a door, into boxes", three,
                "door(0, 1) = 0; turn(0, 0, 1) = 0; thing(1) = 4; thing(1) = 5; thing(1) = 6; thing(4) = 7",
                "put(5, 0) = NONE; put(4, 5) = NONE; put(3, 4) = 0; put(6, 1) = NONE; put(7, 6) = NONE; sees(3, 7) = 0",
                "set(4, 1, 1) = 0; sees(3, 1) = 0; set(5, 0, 1) = 0; sees(3, 1) = 1; sees(3, 6) = 1; sees(3, 7) = 0",
                "set(6, 1, 1) = 0; sees(3, 7) = 1; turn(0, 0, 0) = 1; sees(3, 7) = 0; sees(3, 0) = 1");
        RUNS.run("17 light from afar is enough", "thing(0) = 0; thing(0) = 1; thing(0) = 2; thing(3) = 3; thing(4) = 4; put(3, 0) = NONE",
                "put(4, 1) = NONE; door(0, 1) = 0; door(1, 2) = 1; turn(0, 1, 1) = 0; turn(1, 1, 1) = 0; set(2, 2, 3) = 0",
                "sees(3, 4) = 0; set(2, 2, 4) = 3; sees(3, 4) = 1; sees(3, 0) = 0; sees(3, 2) = 0");
    }

    private static void promise18BarrierOut() {
        RUNS.run("18 out of boxes, the innermost first", "thing(0) = 0; thing(1) = 1; thing(1) = 2; thing(3) = 3; thing(4) = 4",
                "put(1, 0) = NONE; put(2, 1) = NONE; put(3, 2) = NONE; put(4, 0) = NONE",
                "barrier(3, 4) = 2; barrier(3, 0) = 2; barrier(3, 1) = 2; barrier(3, 2) = NONE; barrier(3, 3) = NONE",
                "set(2, 0, 1) = 0; barrier(3, 4) = 1; barrier(3, 0) = 1; barrier(3, 1) = NONE; set(1, 1, 1) = 0; barrier(3, 4) = 1",
                "set(1, 0, 1) = 0; barrier(3, 4) = NONE; barrier(3, 0) = NONE");
        RUNS.run("18 out of hands and from shelves nothing bars", "thing(0) = 0; thing(3) = 1; thing(3) = 2; thing(2) = 3; thing(4) = 4",
                "put(3, 0) = NONE; put(1, 3) = NONE; put(2, 1) = NONE; put(4, 0) = NONE; barrier(2, 4) = NONE; barrier(2, 1) = NONE",
                "barrier(2, 3) = NONE; put(4, 1) = 0; barrier(2, 4) = NONE; barrier(1, 2) = NONE");
        RUNS.run("18 the box in which both are is none", "thing(1) = 0; thing(3) = 1; thing(4) = 2; put(1, 0) = NONE; put(2, 0) = NONE",
                "barrier(1, 2) = NONE; barrier(1, 0) = NONE");
        RUNS.run("18 unknown", "thing(0) = 0; thing(1) = 1; thing(2) = 2; thing(3) = 3; thing(4) = 4; barrier(0, 3) = UNKNOWN",
                "barrier(1, 3) = UNKNOWN; barrier(2, 3) = UNKNOWN; barrier(4, 3) = UNKNOWN; barrier(5, 3) = UNKNOWN",
                "barrier(-1, 3) = UNKNOWN; barrier(3, 5) = UNKNOWN; barrier(3, -1) = UNKNOWN; barrier(MIN, 3) = UNKNOWN",
                "barrier(3, MAX) = UNKNOWN; barrier(4, 4) = UNKNOWN; barrier(3, 3) = NONE");
        RUNS.run("18 apart", "thing(0) = 0; thing(0) = 1; thing(3) = 2; thing(4) = 3; barrier(2, 3) = APART; barrier(2, 0) = APART",
                "put(2, 0) = NONE; barrier(2, 0) = NONE; barrier(2, 1) = APART; barrier(2, 3) = APART; put(3, 1) = NONE",
                "door(0, 1) = 0; turn(0, 0, 1) = 0; barrier(2, 3) = APART; thing(1) = 4; put(4, 0) = NONE; put(2, 4) = 0",
                "barrier(2, 3) = APART; barrier(2, 1) = APART");
    }

    private static void promise18BarrierIn() {
        RUNS.run("18 into boxes, the outermost first", "thing(0) = 0; thing(1) = 1; thing(1) = 2; thing(4) = 3; thing(3) = 4",
                "put(1, 0) = NONE; put(2, 1) = NONE; put(3, 2) = NONE; put(4, 0) = NONE",
                "barrier(4, 3) = 1; barrier(4, 2) = 1; barrier(4, 1) = NONE; set(1, 0, 1) = 0; barrier(4, 3) = 2; barrier(4, 2) = NONE",
                "set(2, 1, 1) = 0; barrier(4, 3) = 2; set(2, 0, 1) = 0; barrier(4, 3) = NONE; set(1, 0, 0) = 1; barrier(4, 3) = 1");
        RUNS.run("18 into hands", "thing(0) = 0; thing(3) = 1; thing(3) = 2; thing(2) = 3; thing(4) = 4; put(1, 0) = NONE; put(2, 0) = NONE",
                "put(3, 2) = NONE; put(4, 3) = NONE; barrier(1, 2) = NONE; barrier(1, 3) = 2; barrier(1, 4) = 2; barrier(2, 4) = NONE");
        RUNS.run("18 in its own hands: boxes and others between", "thing(3) = 0; thing(1) = 1; thing(3) = 2; thing(1) = 3; thing(4) = 4",
                "put(1, 0) = NONE; put(2, 1) = NONE; put(3, 2) = NONE; put(4, 3) = NONE; barrier(0, 1) = NONE; barrier(0, 2) = 1",
                "barrier(0, 4) = 1; set(1, 0, 1) = 0; barrier(0, 2) = NONE; barrier(0, 3) = 2; barrier(0, 4) = 2; barrier(2, 4) = 3",
                "barrier(2, 0) = NONE; set(1, 0, 0) = 1; barrier(2, 0) = 1; barrier(2, 1) = NONE; set(3, 0, 1) = 0; barrier(2, 4) = NONE");
        RUNS.run("18 out first, then in", "thing(0) = 0; thing(1) = 1; thing(1) = 2; thing(3) = 3; thing(4) = 4; put(1, 0) = NONE",
                "put(2, 0) = NONE; put(3, 2) = NONE; put(4, 1) = NONE; barrier(3, 4) = 2; set(2, 0, 1) = 0; barrier(3, 4) = 1",
                "set(1, 0, 1) = 0; barrier(3, 4) = NONE");
    }

    private static void promise19Scope() {
        RUNS.run("19 what it reaches in the dark", "thing(0) = 0; thing(4) = 1; thing(3) = 2; thing(1) = 3; thing(4) = 4; put(1, 0) = NONE",
                "put(2, 0) = NONE; put(3, 0) = NONE; put(4, 3) = NONE; scope(2, 0) = 0; scope(2, 1) = 1; scope(2, 2) = 3",
                "scope(2, 3) = NONE; set(3, 0, 1) = 0; scope(2, 3) = 4; scope(2, 4) = NONE");
        RUNS.run("19 what it sees and does not reach", "thing(0) = 0; thing(0) = 1; thing(4) = 2; thing(3) = 3; thing(3) = 4; thing(4) = 5",
                "put(3, 0) = NONE; put(2, 1) = NONE; put(4, 0) = NONE; put(5, 4) = NONE; scope(3, 0) = 0; scope(3, 1) = 4",
                "scope(3, 2) = NONE; door(0, 1) = 0; turn(0, 1, 1) = 0; set(2, 2, 1) = 0; scope(3, 0) = 0; scope(3, 1) = 1",
                "scope(3, 2) = 2; scope(3, 3) = 4; scope(3, 4) = NONE; set(0, 2, 1) = 0; scope(3, 4) = 5; scope(3, 5) = NONE");
        RUNS.run("19 no such i", "thing(0) = 0; thing(3) = 1; put(1, 0) = NONE; scope(1, 0) = 0; scope(1, 1) = NONE; scope(1, -1) = NONE",
                "scope(1, MIN) = NONE; scope(1, MAX) = NONE");
        RUNS.run("19 without a space: what it has", "thing(3) = 0; thing(4) = 1; thing(0) = 2; scope(0, 0) = NONE; put(1, 0) = NONE",
                "scope(0, 0) = 1; scope(0, 1) = NONE");
        RUNS.run("19 unknown", "scope(0, 0) = UNKNOWN; thing(0) = 0; thing(1) = 1; thing(2) = 2; thing(4) = 3; scope(0, 0) = UNKNOWN",
                "scope(1, 0) = UNKNOWN; scope(2, 0) = UNKNOWN; scope(3, 0) = UNKNOWN; scope(4, 0) = UNKNOWN; scope(-1, 0) = UNKNOWN",
                "scope(MIN, 0) = UNKNOWN; scope(MAX, -1) = UNKNOWN");
    }

    private static void promise20Hears() {
        RUNS.run("20 the greatest part; the least number of like ones",
                "thing(0) = 0; thing(3) = 1; thing(4) = 2; thing(4) = 3; thing(4) = 4; put(1, 0) = NONE; put(2, 0) = NONE",
                "put(3, 0) = NONE; put(4, 1) = NONE; hears(1) = NONE; set(3, 3, 4) = 0; hears(1) = 3; set(4, 3, 4) = 0; hears(1) = 3",
                "set(4, 3, 5) = 4; hears(1) = 4; set(2, 3, 5) = 0; hears(1) = 2; set(0, 3, 5) = 0; hears(1) = 0");
        RUNS.run("20 not itself", "thing(0) = 0; thing(3) = 1; put(1, 0) = NONE; set(1, 3, 9) = 0; hears(1) = NONE; set(0, 3, 1) = 0; hears(1) = 0");
        RUNS.run("20 less what it loses, above 0", "thing(0) = 0; thing(0) = 1; thing(3) = 2; thing(1) = 3; thing(4) = 4; thing(4) = 5",
                "put(2, 0) = NONE; put(3, 0) = NONE; put(4, 3) = NONE; put(5, 1) = NONE; door(1, 0) = 0; set(4, 3, 2) = 0; hears(2) = NONE",
                "set(4, 3, 3) = 2; hears(2) = 4; set(5, 3, 4) = 0; hears(2) = 4; set(5, 3, 5) = 4; hears(2) = 5",
                "set(3, 0, 1) = 0; hears(2) = 4; turn(0, 0, 1) = 0; hears(2) = 5; put(2, 3) = 0; hears(2) = 5; set(3, 0, 0) = 1; hears(2) = 4");
        RUNS.run("20 without a space", "thing(0) = 0; thing(3) = 1; thing(4) = 2; put(2, 1) = NONE; set(2, 3, 9) = 0; hears(1) = NONE",
                "put(1, 0) = NONE; hears(1) = 2; put(2, -1) = 1; hears(1) = NONE; put(2, 0) = NONE; hears(1) = 2; put(1, -1) = 0; hears(1) = NONE");
        RUNS.run("20 a box sounds outside of itself", "thing(0) = 0; thing(1) = 1; thing(3) = 2; put(1, 0) = NONE; put(2, 1) = NONE; set(1, 3, 2) = 0",
                "hears(2) = NONE; set(1, 3, 3) = 2; hears(2) = 1; put(1, -1) = 0; hears(2) = NONE");
        RUNS.run("20 unknown", "hears(0) = UNKNOWN; thing(0) = 0; thing(1) = 1; thing(2) = 2; thing(4) = 3; hears(0) = UNKNOWN",
                "hears(1) = UNKNOWN; hears(2) = UNKNOWN; hears(3) = UNKNOWN; hears(4) = UNKNOWN; hears(-1) = UNKNOWN",
                "hears(MIN) = UNKNOWN; hears(MAX) = UNKNOWN");
    }
}
