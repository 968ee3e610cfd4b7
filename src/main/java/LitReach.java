import java.util.Arrays;

/** Who sees, reaches and hears what, among things in, on and carried by one another, and rooms with doors. */
public final class LitReach {
    public static final int NONE = -1, UNKNOWN = -2, OUTSIDE = -3, RING = -4, APART = -5, BARRED = -6, ROOM = -7;

    private static final int MOST_THINGS = 30, MOST_DOORS = 10, MOST_HELD = 8, MOST_LEVEL = 9;
    private static final int A_ROOM = 0, A_BOX = 1, A_SHELF = 2, A_PERSON = 3, A_LUMP = 4;
    /** The marks of a THING, by the numbers that set() gives them; a DOOR has the first two. */
    private static final int OPEN = 0, CLEAR = 1, LIGHT = 2, SOUND = 3;
    private static final int THING_MARKS = 4, DOOR_MARKS = 2;
    /** Far above what any way can lose (29 STEPS of 3), so that a level of 0 means: not reached. */
    private static final int FULL = 1000;

    private int things;
    private final int[] sorts;
    private final int[] holders;
    private final int[][] thingMarks;

    private int doors;
    private final int[] doorFrom;
    private final int[] doorTo;
    private final int[][] doorMarks;

    /** What a call works out for each SPACE; kept here so that no call makes a row of its own. */
    private final int[] levels;

    public LitReach() {
        things = 0;
        sorts = new int[MOST_THINGS];
        holders = new int[MOST_THINGS];
        thingMarks = new int[THING_MARKS][MOST_THINGS];
        doors = 0;
        doorFrom = new int[MOST_DOORS];
        doorTo = new int[MOST_DOORS];
        doorMarks = new int[DOOR_MARKS][MOST_DOORS];
        levels = new int[MOST_THINGS];
    }

    public int thing(int sort) {
        if (sort < A_ROOM || sort > A_LUMP) {
            return OUTSIDE;
        }
        if (things >= MOST_THINGS) {
            return ROOM;
        }
        int x = things;
        things++;
        sorts[x] = sort;
        holders[x] = NONE;
        for (int mark = 0; mark < THING_MARKS; mark++) {
            thingMarks[mark][x] = 0;
        }
        return x;
    }

    public int clear() {
        int were = things;
        things = 0;
        doors = 0;
        return were;
    }

    public int put(int x, int holder) {
        if (!isThing(x) || sortOf(x) == A_ROOM) {
            return UNKNOWN;
        }
        int was = holders[x];
        if (holder == NONE) {
            holders[x] = NONE;
            return was;
        }
        if (!isThing(holder) || sortOf(holder) == A_LUMP) {
            return UNKNOWN;
        }
        if (holder == x || isWithin(holder, x)) {
            return RING;
        }
        if (holder != was && isFull(holder)) {
            return ROOM;
        }
        holders[x] = holder;
        return was;
    }

    public int set(int x, int what, int v) {
        if (!isThing(x)) {
            return UNKNOWN;
        }
        boolean ofBoxAlone = what == OPEN || what == CLEAR;
        if (ofBoxAlone && sortOf(x) != A_BOX) {
            return UNKNOWN;
        }
        if (what < 0 || what >= THING_MARKS || v < 0 || v > (ofBoxAlone ? 1 : MOST_LEVEL)) {
            return OUTSIDE;
        }
        int was = thingMarks[what][x];
        thingMarks[what][x] = v;
        return was;
    }

    public int door(int a, int b) {
        if (sortOf(a) != A_ROOM || sortOf(b) != A_ROOM) {
            return UNKNOWN;
        }
        if (a == b) {
            return OUTSIDE;
        }
        if (doors >= MOST_DOORS) {
            return ROOM;
        }
        int door = doors;
        doors++;
        doorFrom[door] = a;
        doorTo[door] = b;
        for (int mark = 0; mark < DOOR_MARKS; mark++) {
            doorMarks[mark][door] = 0;
        }
        return door;
    }

    public int turn(int door, int what, int v) {
        if (!isDoor(door)) {
            return UNKNOWN;
        }
        if (what < 0 || what >= DOOR_MARKS || v < 0 || v > 1) {
            return OUTSIDE;
        }
        int was = doorMarks[what][door];
        doorMarks[what][door] = v;
        return was;
    }

    // ---- acts

    public int take(int who, int x) {
        if (!isPerson(who) || !isThing(x) || sortOf(x) == A_ROOM || isPerson(x)) {
            return UNKNOWN;
        }
        if (isWithin(who, x)) {
            return RING;
        }
        int bar = firstBarrier(who, x);
        if (bar == APART) {
            return APART;
        }
        if (bar != NONE) {
            return BARRED;
        }
        if (holders[x] == who) {
            return 0;
        }
        if (isFull(who)) {
            return ROOM;
        }
        holders[x] = who;
        return 1;
    }

    public int give(int who, int x, int to) {
        if (!hasInHands(who, x) || to == who || !mayBeGivenTo(to)) {
            return UNKNOWN;
        }
        if (to == x || isWithin(to, x)) {
            return RING;
        }
        int bar = firstBarrier(who, to);
        if (bar == APART) {
            return APART;
        }
        if (bar != NONE || isShutBox(to)) {
            return BARRED;
        }
        if (isFull(to)) {
            return ROOM;
        }
        holders[x] = to;
        return 1;
    }

    public int drop(int who, int x) {
        if (!hasInHands(who, x)) {
            return UNKNOWN;
        }
        int place = holderOf(who);
        if (place == NONE) {
            return APART;
        }
        if (isFull(place)) {
            return ROOM;
        }
        holders[x] = place;
        return 1;
    }

    public int go(int who, int door) {
        if (!isPerson(who) || !isDoor(door)) {
            return UNKNOWN;
        }
        int here = holders[who];
        if (here != doorFrom[door] && here != doorTo[door]) {
            return APART;
        }
        if (doorMarks[OPEN][door] == 0) {
            return BARRED;
        }
        int there = here == doorFrom[door] ? doorTo[door] : doorFrom[door];
        holders[who] = there;
        return there;
    }

    // ---- what is told

    public int count(int what) {
        switch (what) {
            case 0:
                return things;
            case 1:
                return doors;
            default:
                return OUTSIDE;
        }
    }

    public int told(int x, int what) {
        if (!isThing(x)) {
            return UNKNOWN;
        }
        switch (what) {
            case 0:
                return sortOf(x);
            case 1:
                return holderOf(x);
            case 2:
                return spaceOf(x);
            case 3:
                return countHeldBy(x);
            case 4:
                return countWithin(x);
            case 5:
                return markOf(x, OPEN);
            case 6:
                return markOf(x, CLEAR);
            case 7:
                return markOf(x, LIGHT);
            case 8:
                return markOf(x, SOUND);
            default:
                return OUTSIDE;
        }
    }

    public int held(int x, int i) {
        if (!isThing(x)) {
            return UNKNOWN;
        }
        int before = 0;
        for (int y = 0; y < things; y++) {
            if (holders[y] == x) {
                if (before == i) {
                    return y;
                }
                before++;
            }
        }
        return NONE;
    }

    public int space(int x, int what) {
        if (!isSpace(x)) {
            return UNKNOWN;
        }
        if (what < 0 || what > 1) {
            return OUTSIDE;
        }
        fillFromAllThings(LIGHT + what);
        return levels[x];
    }

    public int loses(int from, int to, int what) {
        if (!isSpace(from) || !isSpace(to)) {
            return UNKNOWN;
        }
        if (what < 0 || what > 1) {
            return OUTSIDE;
        }
        fillFromOneSpace(from, LIGHT + what);
        return lossAt(to);
    }

    public int sees(int who, int x) {
        if (!isPerson(who) || !isThing(x)) {
            return UNKNOWN;
        }
        if (who == x) {
            return 0;
        }
        fillFromAllThings(LIGHT);
        return isSeen(x, viewOf(who)) ? 1 : 0;
    }

    public int barrier(int who, int x) {
        if (!isPerson(who) || !isThing(x)) {
            return UNKNOWN;
        }
        return who == x ? NONE : firstBarrier(who, x);
    }

    public int scope(int who, int i) {
        if (!isPerson(who)) {
            return UNKNOWN;
        }
        fillFromAllThings(LIGHT);
        int view = viewOf(who);
        int before = 0;
        for (int x = 0; x < things; x++) {
            if (x != who && (isSeen(x, view) || firstBarrier(who, x) == NONE)) {
                if (before == i) {
                    return x;
                }
                before++;
            }
        }
        return NONE;
    }

    public int hears(int who) {
        if (!isPerson(who)) {
            return UNKNOWN;
        }
        int here = spaceOf(who);
        if (here == NONE) {
            return NONE;
        }
        // A STEP loses the same both ways, so the ways from the PERSON tell the ways to it.
        fillFromOneSpace(here, SOUND);
        int loudest = NONE;
        int greatest = 0;
        for (int x = 0; x < things; x++) {
            int part = x == who ? 0 : partHeardOf(x);
            if (part > greatest) {
                greatest = part;
                loudest = x;
            }
        }
        return loudest;
    }

    // ---- things: each of these has an answer for every number, so that none needs a test before it

    private boolean isThing(int x) {
        return x >= 0 && x < things;
    }

    private boolean isDoor(int door) {
        return door >= 0 && door < doors;
    }

    private int sortOf(int x) {
        return isThing(x) ? sorts[x] : NONE;
    }

    private int holderOf(int x) {
        return isThing(x) ? holders[x] : NONE;
    }

    private int markOf(int x, int mark) {
        return isThing(x) && mark >= 0 && mark < THING_MARKS ? thingMarks[mark][x] : 0;
    }

    private boolean isPerson(int x) {
        return sortOf(x) == A_PERSON;
    }

    private boolean isShutBox(int x) {
        return sortOf(x) == A_BOX && markOf(x, OPEN) == 0;
    }

    private boolean isSpace(int x) {
        int sort = sortOf(x);
        return sort == A_ROOM || sort == A_BOX;
    }

    private boolean mayBeGivenTo(int x) {
        int sort = sortOf(x);
        return sort == A_BOX || sort == A_SHELF || sort == A_PERSON;
    }

    private boolean hasInHands(int who, int x) {
        return isPerson(who) && isThing(x) && holderOf(x) == who;
    }

    private boolean isFull(int holder) {
        return sortOf(holder) != A_ROOM && countHeldBy(holder) >= MOST_HELD;
    }

    private int countHeldBy(int x) {
        int n = 0;
        for (int y = 0; y < things; y++) {
            if (holders[y] == x) {
                n++;
            }
        }
        return n;
    }

    private int countWithin(int x) {
        int n = 0;
        for (int y = 0; y < things; y++) {
            if (isWithin(y, x)) {
                n++;
            }
        }
        return n;
    }

    private boolean isWithin(int x, int outer) {
        int at = holderOf(x);
        for (int up = 0; up < MOST_THINGS && at != NONE; up++) {
            if (at == outer) {
                return true;
            }
            at = holderOf(at);
        }
        return false;
    }

    private int spaceOf(int x) {
        if (sortOf(x) == A_ROOM) {
            return x;
        }
        int at = holderOf(x);
        for (int up = 0; up < MOST_THINGS && at != NONE; up++) {
            if (isSpace(at)) {
                return at;
            }
            at = holderOf(at);
        }
        return NONE;
    }

    // ---- the way

    /** The first BARRIER on THE WAY to another THING; NONE: it is free; APART: there is no WAY. */
    private int firstBarrier(int who, int x) {
        int turning = turningPoint(who, x);
        if (turning == NONE) {
            return APART;
        }
        int bar = firstBarrierOut(who, turning);
        return bar != NONE ? bar : firstBarrierIn(turning, x);
    }

    /** Where THE WAY leads no further out: the PERSON itself, if it has the THING WITHIN it. */
    private int turningPoint(int who, int x) {
        int at = who;
        for (int up = 0; up < MOST_THINGS && at != NONE; up++) {
            if (at == x || isWithin(x, at)) {
                return at;
            }
            at = holderOf(at);
        }
        return NONE;
    }

    private int firstBarrierOut(int who, int turning) {
        // The PERSON is no BOX, so to begin with it finds nothing more than to begin with its HOLDER.
        int at = who;
        for (int up = 0; up < MOST_THINGS && at != turning && at != NONE; up++) {
            if (isShutBox(at)) {
                return at;
            }
            at = holderOf(at);
        }
        return NONE;
    }

    private int firstBarrierIn(int turning, int x) {
        if (turning == x) {
            return NONE;
        }
        // THE WAY leads inwards and this goes outwards: the last one found is the first on THE WAY.
        int first = NONE;
        int at = holderOf(x);
        for (int up = 0; up < MOST_THINGS && at != turning && at != NONE; up++) {
            if (isShutBox(at) || isPerson(at)) {
                first = at;
            }
            at = holderOf(at);
        }
        return first;
    }

    // ---- light and sound

    /** What LIGHT or SOUND loses at the WALL of a BOX; NONE: it does not pass, or that is no BOX. */
    private int wallLoss(int x, int mark) {
        if (sortOf(x) != A_BOX) {
            return NONE;
        }
        if (markOf(x, OPEN) == 1) {
            return 0;
        }
        if (mark == SOUND) {
            return 2;
        }
        return markOf(x, CLEAR) == 1 ? 1 : NONE;
    }

    /** What LIGHT or SOUND loses at a DOOR; NONE: it does not pass. */
    private int doorLoss(int door, int mark) {
        if (!isDoor(door)) {
            return NONE;
        }
        boolean open = doorMarks[OPEN][door] == 1;
        if (mark == SOUND) {
            return open ? 1 : 3;
        }
        if (open) {
            return 2;
        }
        return doorMarks[CLEAR][door] == 1 ? 3 : NONE;
    }

    /** Afterwards the levels are BRIGHT or LOUD of each SPACE. */
    private void fillFromAllThings(int mark) {
        Arrays.fill(levels, 0);
        for (int x = 0; x < things; x++) {
            int here = spaceOf(x);
            if (here != NONE) {
                levels[here] = Math.max(levels[here], markOf(x, mark));
            }
        }
        spread(mark);
    }

    /** Afterwards lossAt tells what is lost on the way from this SPACE. */
    private void fillFromOneSpace(int from, int mark) {
        Arrays.fill(levels, 0);
        if (isThing(from)) {
            levels[from] = FULL;
        }
        spread(mark);
    }

    private int lossAt(int space) {
        return isThing(space) && levels[space] > 0 ? FULL - levels[space] : NONE;
    }

    /** No way without a ring has more STEPS than there are SPACES: so many rounds are enough. */
    private void spread(int mark) {
        boolean changed = true;
        for (int round = 0; round < MOST_THINGS && changed; round++) {
            changed = false;
            for (int x = 0; x < things; x++) {
                int loss = wallLoss(x, mark);
                if (loss != NONE && spreadOver(x, spaceOf(x), loss)) {
                    changed = true;
                }
            }
            for (int door = 0; door < doors; door++) {
                int loss = doorLoss(door, mark);
                if (loss != NONE && spreadOver(doorFrom[door], doorTo[door], loss)) {
                    changed = true;
                }
            }
        }
    }

    /** Whether a level has grown by it. The WALL of a BOX that has no SPACE leads to NONE: that is no STEP. */
    private boolean spreadOver(int a, int b, int loss) {
        if (!isThing(a) || !isThing(b)) {
            return false;
        }
        if (levels[a] - loss > levels[b]) {
            levels[b] = levels[a] - loss;
            return true;
        }
        if (levels[b] - loss > levels[a]) {
            levels[a] = levels[b] - loss;
            return true;
        }
        return false;
    }

    /** SOUND of a THING less what it loses from the SPACE that the levels were filled from. */
    private int partHeardOf(int x) {
        int loss = lossAt(spaceOf(x));
        return loss == NONE ? 0 : markOf(x, SOUND) - loss;
    }

    // ---- views: sets of SPACES, a bit for each

    /** The SPACES from which LIGHT comes to a PERSON over one DOOR at most. */
    private int viewOf(int who) {
        int here = spaceOf(who);
        if (here == NONE) {
            return 0;
        }
        int indoors = widenedOverWalls(1 << here);
        return widenedOverWalls(widenedOverOneDoor(indoors));
    }

    private int widenedOverWalls(int view) {
        int wide = view;
        boolean changed = true;
        for (int round = 0; round < MOST_THINGS && changed; round++) {
            int before = wide;
            for (int x = 0; x < things; x++) {
                if (wallLoss(x, LIGHT) != NONE) {
                    wide |= endsIfTouched(wide, x, spaceOf(x));
                }
            }
            changed = wide != before;
        }
        return wide;
    }

    private int widenedOverOneDoor(int view) {
        int wide = view;
        for (int door = 0; door < doors; door++) {
            if (doorLoss(door, LIGHT) != NONE) {
                // Asked of the old view: of the new one it could be a second DOOR.
                wide |= endsIfTouched(view, doorFrom[door], doorTo[door]);
            }
        }
        return wide;
    }

    /** Both ends of a STEP, if one is in view; none of what leads to NONE. */
    private static int endsIfTouched(int view, int a, int b) {
        if (a < 0 || b < 0) {
            return 0;
        }
        int ends = (1 << a) | (1 << b);
        return (view & ends) != 0 ? ends : 0;
    }

    /** Asks the levels too: they are BRIGHT then. A THING with LIGHT makes its own SPACE BRIGHT. */
    private boolean isSeen(int x, int view) {
        int there = spaceOf(x);
        return there != NONE && (view & (1 << there)) != 0 && levels[there] > 0;
    }
}
