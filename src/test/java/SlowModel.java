import java.util.ArrayList;
import java.util.Comparator;
import java.util.HashSet;
import java.util.List;
import java.util.Set;

/** The document's words, one by one, with no care for speed: LitReach is measured against it. */
final class SlowModel {
    private static final int NONE = -1, UNKNOWN = -2, OUTSIDE = -3, RING = -4, APART = -5, BARRED = -6, FULL = -7;

    private enum Sort { ROOM, BOX, SHELF, PERSON, LUMP }

    private static final class Thing {
        int number;
        Sort sort;
        Thing holder;
        boolean open;
        boolean clear;
        int light;
        int sound;

        boolean isSpace() {
            return sort == Sort.ROOM || sort == Sort.BOX;
        }

        boolean isShutBox() {
            return sort == Sort.BOX && !open;
        }

        boolean within(Thing other) {
            return holder != null && (holder == other || holder.within(other));
        }

        Thing space() {
            if (sort == Sort.ROOM) {
                return this;
            }
            if (holder == null) {
                return null;
            }
            return holder.isSpace() ? holder : holder.space();
        }

        int depth() {
            return holder == null ? 0 : 1 + holder.depth();
        }
    }

    private static final class Door {
        Thing a;
        Thing b;
        boolean open;
        boolean clear;
    }

    private record Step(Thing from, Thing to, boolean isDoor, boolean open, boolean clear) {
        boolean passes(boolean light) {
            return !light || open || clear;
        }

        int loses(boolean light) {
            if (isDoor) {
                return light ? (open ? 2 : 3) : (open ? 1 : 3);
            }
            return light ? (open ? 0 : 1) : (open ? 0 : 2);
        }
    }

    private final List<Thing> things = new ArrayList<>();
    private final List<Door> doors = new ArrayList<>();

    private Thing find(int x) {
        return x >= 0 && x < things.size() ? things.get(x) : null;
    }

    private Thing find(int x, Sort... sorts) {
        Thing thing = find(x);
        return thing != null && List.of(sorts).contains(thing.sort) ? thing : null;
    }

    private Door findDoor(int d) {
        return d >= 0 && d < doors.size() ? doors.get(d) : null;
    }

    private static int numberOf(Thing thing) {
        return thing == null ? NONE : thing.number;
    }

    private List<Thing> heldBy(Thing holder) {
        return things.stream().filter(t -> t.holder == holder).toList();
    }

    /** Puts it there and looks: too many, and it goes back. */
    private boolean fits(Thing thing, Thing holder) {
        Thing was = thing.holder;
        thing.holder = holder;
        if (holder != null && holder.sort != Sort.ROOM && heldBy(holder).size() > 8) {
            thing.holder = was;
            return false;
        }
        return true;
    }

    public int thing(int sort) {
        if (sort < 0 || sort > 4) {
            return OUTSIDE;
        }
        if (things.size() == 30) {
            return FULL;
        }
        Thing thing = new Thing();
        thing.number = things.size();
        thing.sort = Sort.values()[sort];
        things.add(thing);
        return thing.number;
    }

    public int clear() {
        int were = things.size();
        things.clear();
        doors.clear();
        return were;
    }

    public int put(int x, int holder) {
        Thing thing = find(x, Sort.BOX, Sort.SHELF, Sort.PERSON, Sort.LUMP);
        Thing to = find(holder, Sort.ROOM, Sort.BOX, Sort.SHELF, Sort.PERSON);
        if (thing == null || (to == null && holder != NONE)) {
            return UNKNOWN;
        }
        int was = numberOf(thing.holder);
        if (to != null && (to == thing || to.within(thing))) {
            return RING;
        }
        return fits(thing, to) ? was : FULL;
    }

    public int set(int x, int what, int v) {
        Thing thing = find(x);
        if (thing == null || ((what == 0 || what == 1) && thing.sort != Sort.BOX)) {
            return UNKNOWN;
        }
        if (what < 0 || what > 3 || v < 0 || v > (what < 2 ? 1 : 9)) {
            return OUTSIDE;
        }
        int was = told(x, 5 + what);
        switch (what) {
            case 0 -> thing.open = v == 1;
            case 1 -> thing.clear = v == 1;
            case 2 -> thing.light = v;
            default -> thing.sound = v;
        }
        return was;
    }

    public int door(int a, int b) {
        Door door = new Door();
        door.a = find(a, Sort.ROOM);
        door.b = find(b, Sort.ROOM);
        if (door.a == null || door.b == null) {
            return UNKNOWN;
        }
        if (a == b) {
            return OUTSIDE;
        }
        if (doors.size() == 10) {
            return FULL;
        }
        doors.add(door);
        return doors.size() - 1;
    }

    public int turn(int d, int what, int v) {
        Door door = findDoor(d);
        if (door == null) {
            return UNKNOWN;
        }
        if (what < 0 || what > 1 || v < 0 || v > 1) {
            return OUTSIDE;
        }
        boolean was = what == 0 ? door.open : door.clear;
        if (what == 0) {
            door.open = v == 1;
        } else {
            door.clear = v == 1;
        }
        return was ? 1 : 0;
    }

    public int take(int who, int x) {
        Thing person = find(who, Sort.PERSON);
        Thing thing = find(x, Sort.BOX, Sort.SHELF, Sort.LUMP);
        if (person == null || thing == null) {
            return UNKNOWN;
        }
        if (person.within(thing)) {
            return RING;
        }
        int bar = barrier(who, x);
        if (bar != NONE) {
            return bar == APART ? APART : BARRED;
        }
        boolean already = thing.holder == person;
        if (!fits(thing, person)) {
            return FULL;
        }
        return already ? 0 : 1;
    }

    public int give(int who, int x, int to) {
        Thing person = find(who, Sort.PERSON);
        Thing thing = find(x);
        Thing goal = find(to, Sort.BOX, Sort.SHELF, Sort.PERSON);
        if (person == null || thing == null || goal == null || thing.holder != person || goal == person) {
            return UNKNOWN;
        }
        if (goal == thing || goal.within(thing)) {
            return RING;
        }
        int bar = barrier(who, to);
        if (bar == APART) {
            return APART;
        }
        if (bar != NONE || goal.isShutBox()) {
            return BARRED;
        }
        return fits(thing, goal) ? 1 : FULL;
    }

    public int drop(int who, int x) {
        Thing person = find(who, Sort.PERSON);
        Thing thing = find(x);
        if (person == null || thing == null || thing.holder != person) {
            return UNKNOWN;
        }
        if (person.holder == null) {
            return APART;
        }
        return fits(thing, person.holder) ? 1 : FULL;
    }

    public int go(int who, int d) {
        Thing person = find(who, Sort.PERSON);
        Door door = findDoor(d);
        if (person == null || door == null) {
            return UNKNOWN;
        }
        if (person.holder == null || (person.holder != door.a && person.holder != door.b)) {
            return APART;
        }
        if (!door.open) {
            return BARRED;
        }
        person.holder = person.holder == door.a ? door.b : door.a;
        return person.holder.number;
    }

    public int count(int what) {
        return what == 0 ? things.size() : what == 1 ? doors.size() : OUTSIDE;
    }

    public int told(int x, int what) {
        Thing thing = find(x);
        if (thing == null) {
            return UNKNOWN;
        }
        return switch (what) {
            case 0 -> thing.sort.ordinal();
            case 1 -> numberOf(thing.holder);
            case 2 -> numberOf(thing.space());
            case 3 -> heldBy(thing).size();
            case 4 -> (int) things.stream().filter(t -> t.within(thing)).count();
            case 5 -> thing.open ? 1 : 0;
            case 6 -> thing.clear ? 1 : 0;
            case 7 -> thing.light;
            case 8 -> thing.sound;
            default -> OUTSIDE;
        };
    }

    public int held(int x, int i) {
        Thing thing = find(x);
        return thing == null ? UNKNOWN : pick(heldBy(thing), i);
    }

    private static int pick(List<Thing> list, int i) {
        return i >= 0 && i < list.size() ? list.get(i).number : NONE;
    }

    private List<Step> steps() {
        List<Step> steps = new ArrayList<>();
        for (Thing box : things) {
            if (box.sort == Sort.BOX && box.space() != null) {
                steps.add(new Step(box, box.space(), false, box.open, box.clear));
                steps.add(new Step(box.space(), box, false, box.open, box.clear));
            }
        }
        for (Door door : doors) {
            steps.add(new Step(door.a, door.b, true, door.open, door.clear));
            steps.add(new Step(door.b, door.a, true, door.open, door.clear));
        }
        return steps;
    }

    /** All least losses at once, by way of ever more SPACES. */
    private int[][] losses(boolean light) {
        int n = things.size();
        int never = 1_000_000;
        int[][] least = new int[n][n];
        for (int a = 0; a < n; a++) {
            for (int b = 0; b < n; b++) {
                least[a][b] = a == b ? 0 : never;
            }
        }
        for (Step step : steps()) {
            if (step.passes(light)) {
                int a = step.from.number;
                int b = step.to.number;
                least[a][b] = Math.min(least[a][b], step.loses(light));
            }
        }
        for (int over = 0; over < n; over++) {
            for (int a = 0; a < n; a++) {
                for (int b = 0; b < n; b++) {
                    least[a][b] = Math.min(least[a][b], least[a][over] + least[over][b]);
                }
            }
        }
        return least;
    }

    public int space(int x, int what) {
        Thing space = find(x, Sort.ROOM, Sort.BOX);
        if (space == null) {
            return UNKNOWN;
        }
        if (what != 0 && what != 1) {
            return OUTSIDE;
        }
        return level(space, what == 0);
    }

    private int level(Thing space, boolean light) {
        int[][] least = losses(light);
        int greatest = 0;
        for (Thing thing : things) {
            if (thing.space() != null) {
                int strength = light ? thing.light : thing.sound;
                greatest = Math.max(greatest, strength - least[thing.space().number][space.number]);
            }
        }
        return greatest;
    }

    public int loses(int from, int to, int what) {
        if (find(from, Sort.ROOM, Sort.BOX) == null || find(to, Sort.ROOM, Sort.BOX) == null) {
            return UNKNOWN;
        }
        if (what != 0 && what != 1) {
            return OUTSIDE;
        }
        int loss = losses(what == 0)[from][to];
        return loss >= 1_000_000 ? NONE : loss;
    }

    public int sees(int who, int x) {
        Thing person = find(who, Sort.PERSON);
        Thing thing = find(x);
        if (person == null || thing == null) {
            return UNKNOWN;
        }
        if (person == thing || person.space() == null || thing.space() == null) {
            return 0;
        }
        boolean lit = thing.light > 0 || level(thing.space(), true) > 0;
        return lit && lightGets(steps(), person.space(), thing.space(), 1, new HashSet<>()) ? 1 : 0;
    }

    private boolean lightGets(List<Step> steps, Thing from, Thing to, int doorsLeft, Set<Integer> been) {
        if (from == to) {
            return true;
        }
        if (!been.add(from.number * 2 + doorsLeft)) {
            return false;
        }
        for (Step step : steps) {
            int left = step.isDoor ? doorsLeft - 1 : doorsLeft;
            if (step.from == from && step.passes(true) && left >= 0 && lightGets(steps, step.to, to, left, been)) {
                return true;
            }
        }
        return false;
    }

    public int barrier(int who, int x) {
        Thing person = find(who, Sort.PERSON);
        Thing thing = find(x);
        if (person == null || thing == null) {
            return UNKNOWN;
        }
        if (person == thing) {
            return NONE;
        }
        if (thing.within(person)) {
            return firstInto(person, between(person, thing));
        }
        for (Thing at = person.holder; at != null; at = at.holder) {
            if (at == thing || thing.within(at)) {
                return firstInto(person, between(at, thing));
            }
            if (at.isShutBox() && hasWay(person, thing)) {
                return at.number;
            }
        }
        return APART;
    }

    private static boolean hasWay(Thing person, Thing thing) {
        for (Thing at = person.holder; at != null; at = at.holder) {
            if (at == thing || thing.within(at)) {
                return true;
            }
        }
        return false;
    }

    /** All that has the THING WITHIN it and is WITHIN the outer one, from the outermost on. */
    private List<Thing> between(Thing outer, Thing thing) {
        return things.stream().filter(t -> thing.within(t) && t.within(outer))
                .sorted(Comparator.comparingInt(Thing::depth)).toList();
    }

    private static int firstInto(Thing person, List<Thing> inwards) {
        for (Thing at : inwards) {
            if (at.isShutBox() || (at.sort == Sort.PERSON && at != person)) {
                return at.number;
            }
        }
        return NONE;
    }

    public int scope(int who, int i) {
        if (find(who, Sort.PERSON) == null) {
            return UNKNOWN;
        }
        return pick(things.stream().filter(t -> t.number != who)
                .filter(t -> sees(who, t.number) == 1 || barrier(who, t.number) == NONE).toList(), i);
    }

    public int hears(int who) {
        Thing person = find(who, Sort.PERSON);
        if (person == null) {
            return UNKNOWN;
        }
        if (person.space() == null) {
            return NONE;
        }
        int[][] least = losses(false);
        return numberOf(things.stream().filter(t -> t != person && t.space() != null)
                .filter(t -> t.sound > least[t.space().number][person.space().number])
                .min(Comparator.<Thing>comparingInt(t -> least[t.space().number][person.space().number] - t.sound)
                        .thenComparingInt(t -> t.number)).orElse(null));
    }
}
