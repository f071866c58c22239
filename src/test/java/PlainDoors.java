import java.util.ArrayDeque;
import java.util.ArrayList;
import java.util.HashMap;
import java.util.List;
import java.util.Map;
import java.util.TreeSet;
import java.util.regex.Matcher;
import java.util.regex.Pattern;

/** The document told a second time, by other means than the class: sets, maps, copies and regular expressions. */
final class PlainDoors {
    private static final String PART = "(?:[oc][0-9]|g[0-2][ocw][0-9])";
    private static final Pattern TEXT = Pattern.compile(PART + "(?:;" + PART + ")*");

    /** What is undone and restored. */
    private static final class World {
        TreeSet<Integer> open = new TreeSet<>();
        Integer[][] cords = new Integer[10][2];
        List<TreeSet<Integer>> halls = new ArrayList<>();
        int[] at = new int[3];
        List<TreeSet<Integer>> keys = new ArrayList<>();
        int[] walks = new int[3];
        int draft = 3;
        int[] opened = new int[10];
        int[] shutByHand = new int[10];
        int[] shutByCords = new int[10];
        int[] shutByDrafts = new int[10];
        int refused = 0;

        World copy() {
            World copy = new World();
            copy.open = new TreeSet<>(open);
            for (int door = 0; door < 10; door++) {
                copy.cords[door] = cords[door].clone();
            }
            for (TreeSet<Integer> pair : halls) {
                copy.halls.add(new TreeSet<>(pair));
            }
            for (TreeSet<Integer> set : keys) {
                copy.keys.add(new TreeSet<>(set));
            }
            copy.at = at.clone();
            copy.walks = walks.clone();
            copy.draft = draft;
            copy.opened = opened.clone();
            copy.shutByHand = shutByHand.clone();
            copy.shutByCords = shutByCords.clone();
            copy.shutByDrafts = shutByDrafts.clone();
            copy.refused = refused;
            return copy;
        }
    }

    private World now = new World();
    private World saved = null;
    private final ArrayDeque<World> history = new ArrayDeque<>();
    private String pad = "";
    private int[] stop = null;

    PlainDoors() {
        for (int door = 0; door < 10; door++) {
            now.cords[door][0] = (door + 1) % 10;
            now.cords[door][1] = (door + 3) % 10;
            now.halls.add(new TreeSet<>(List.of(door % 6, (door + 1) % 6)));
        }
        for (int guest = 0; guest < 3; guest++) {
            now.keys.add(new TreeSet<>());
        }
    }

    private static boolean in(int number, int least, int most) {
        return least <= number && number <= most;
    }

    private static int bits(Iterable<Integer> set) {
        int bits = 0;
        for (int element : set) {
            bits += (int) Math.round(Math.pow(2, element));
        }
        return bits;
    }

    private static TreeSet<Integer> set(int bits) {
        TreeSet<Integer> set = new TreeSet<>();
        for (int door = 0; door < 10; door++) {
            if (bits / (int) Math.round(Math.pow(2, door)) % 2 == 1) {
                set.add(door);
            }
        }
        return set;
    }

    private void record() {
        history.addLast(now.copy());
        if (history.size() == 5) {
            history.removeFirst();
        }
    }

    private int tightTo(int door) {
        int tight = 0;
        for (int one : now.open) {
            for (Integer cord : now.cords[one]) {
                if (cord != null && cord == door) {
                    tight++;
                }
            }
        }
        return tight;
    }

    private List<Integer> openIn(int hall) {
        List<Integer> doors = new ArrayList<>();
        for (int door : now.open) {
            if (now.halls.get(door).contains(hall)) {
                doors.add(door);
            }
        }
        return doors;
    }

    private int otherHall(int door, int hall) {
        TreeSet<Integer> pair = new TreeSet<>(now.halls.get(door));
        pair.remove(hall);
        return pair.first();
    }

    /** The doors that shut, those by cords first, then those by drafts; the door itself is open then. */
    private List<List<Integer>> opens(int door) {
        List<Integer> byCords = new ArrayList<>();
        List<Integer> byDrafts = new ArrayList<>();
        now.open.add(door);
        for (Integer cord : now.cords[door]) {
            if (cord != null && now.open.remove(cord)) {
                byCords.add(cord);
            }
        }
        for (int hall = 0; hall < 6; hall++) {
            while (openIn(hall).size() > now.draft) {
                List<Integer> movable = openIn(hall);
                movable.remove((Integer) door);
                byDrafts.add(movable.get(0));
                now.open.remove(movable.get(0));
            }
        }
        return List.of(byCords, byDrafts);
    }

    private int reasonToOpen(int guest, int door) {
        if (guest >= 0 && !now.halls.get(door).contains(now.at[guest])) {
            return 5;
        }
        if (guest >= 0 && !now.keys.get(guest).contains(door)) {
            return 6;
        }
        return now.open.contains(door) ? 1 : tightTo(door) > 0 ? 2 : 0;
    }

    private int reasonToUse(int guest, int door) {
        if (guest >= 0 && !now.halls.get(door).contains(now.at[guest])) {
            return 5;
        }
        return now.open.contains(door) ? 0 : 3;
    }

    /** A deed of a guest, or of a servant, who is -1. */
    private int deed(int guest, char letter, int door) {
        int reason = letter == 'o' ? reasonToOpen(guest, door) : reasonToUse(guest, door);
        if (reason > 0) {
            now.refused++;
            return reason;
        }
        if (letter == 'w') {
            now.at[guest] = otherHall(door, now.at[guest]);
            now.walks[guest]++;
            return 10 + now.at[guest];
        }
        if (letter == 'c') {
            now.open.remove(door);
            now.shutByHand[door]++;
            return 10;
        }
        now.opened[door]++;
        List<List<Integer>> shut = opens(door);
        for (int one : shut.get(0)) {
            now.shutByCords[one]++;
        }
        for (int one : shut.get(1)) {
            now.shutByDrafts[one]++;
        }
        return 10 + shut.get(0).size() + shut.get(1).size();
    }

    private int change(int guest, char letter, int door) {
        if (!in(guest, -1, 2) || !in(door, 0, 9)) {
            return -1;
        }
        record();
        return deed(guest, letter, door);
    }

    int open(int door) {
        return change(-1, 'o', door);
    }

    int shut(int door) {
        return change(-1, 'c', door);
    }

    int guestOpens(int guest, int door) {
        return guest < 0 ? -1 : change(guest, 'o', door);
    }

    int guestShuts(int guest, int door) {
        return guest < 0 ? -1 : change(guest, 'c', door);
    }

    int walk(int guest, int door) {
        return guest < 0 ? -1 : change(guest, 'w', door);
    }

    int cord(int door, boolean second, int other) {
        if (!in(door, 0, 9) || !in(other, 0, 10) || door == other) {
            return -1;
        }
        Integer beside = now.cords[door][second ? 0 : 1];
        if (beside != null && beside == other) {
            return -1;
        }
        record();
        if (now.open.contains(door) && now.open.contains(other)) {
            now.refused++;
            return 4;
        }
        now.cords[door][second ? 1 : 0] = other == 10 ? null : (Integer) other;
        return 10;
    }

    int join(int door, int one, int other) {
        if (!in(door, 0, 9) || !in(one, 0, 5) || !in(other, 0, 5) || one == other) {
            return -1;
        }
        if (now.open.contains(door)) {
            return -2;
        }
        record();
        TreeSet<Integer> before = now.halls.get(door);
        now.halls.set(door, new TreeSet<>(List.of(one, other)));
        return 10 * before.first() + before.last();
    }

    int keys(int guest, int doors) {
        if (!in(guest, 0, 2) || !in(doors, 0, 1023)) {
            return -1;
        }
        record();
        return bits(now.keys.set(guest, set(doors)));
    }

    int draft(int draft) {
        if (!in(draft, 1, 10)) {
            return -1;
        }
        record();
        int before = now.draft;
        now.draft = draft;
        return before;
    }

    int append(int code) {
        if (!in(code, 33, 126)) {
            return -1;
        }
        if (pad.length() == 60) {
            return -3;
        }
        pad += (char) code;
        return pad.length();
    }

    int clear() {
        int before = pad.length();
        pad = "";
        return before;
    }

    int fault() {
        for (int place = 0; place < pad.length(); place++) {
            Matcher matcher = TEXT.matcher(pad.substring(0, place + 1));
            if (!matcher.matches() && !matcher.hitEnd()) {
                return place;
            }
        }
        return TEXT.matcher(pad).matches() ? -4 : pad.length();
    }

    int run() {
        if (fault() != -4) {
            return -2;
        }
        record();
        stop = null;
        int place = 0;
        int number = 0;
        for (String part : pad.split(";")) {
            int guest = part.startsWith("g") ? part.charAt(1) - '0' : -1;
            String rest = part.startsWith("g") ? part.substring(2) : part;
            int answer = deed(guest, rest.charAt(0), rest.charAt(1) - '0');
            if (answer < 10) {
                stop = new int[] {answer, number, place};
                break;
            }
            number++;
            place += part.length() + 1;
        }
        pad = "";
        return number;
    }

    int why(int what) {
        return !in(what, 0, 2) ? -1 : stop == null ? -4 : stop[what];
    }

    int door(int door, int what) {
        if (!in(door, 0, 9) || !in(what, 0, 9)) {
            return -1;
        }
        int to = 0;
        for (Integer[] pair : now.cords) {
            for (Integer cord : pair) {
                to += cord != null && cord == door ? 1 : 0;
            }
        }
        Integer first = now.cords[door][0];
        Integer second = now.cords[door][1];
        int[] answers = {now.open.contains(door) ? 1 : 0, now.halls.get(door).first(), now.halls.get(door).last(),
            first == null ? -4 : first, second == null ? -4 : second, tightTo(door) > 0 ? 1 : 0, to, tightTo(door),
            now.opened[door], now.shutByHand[door] + now.shutByCords[door] + now.shutByDrafts[door]};
        return answers[what];
    }

    private boolean hang(int one, int other, List<Integer> seen) {
        if (one == other) {
            return true;
        }
        seen.add(one);
        for (int door : openIn(one)) {
            int next = otherHall(door, one);
            if (!seen.contains(next) && hang(next, other, seen)) {
                return true;
            }
        }
        return false;
    }

    int hall(int hall, int what) {
        if (!in(hall, 0, 5) || !in(what, 0, 3)) {
            return -1;
        }
        int joining = 0;
        for (TreeSet<Integer> pair : now.halls) {
            joining += pair.contains(hall) ? 1 : 0;
        }
        int guests = 0;
        for (int at : now.at) {
            guests += at == hall ? 1 : 0;
        }
        int hanging = 0;
        for (int other = 0; other < 6; other++) {
            hanging += hang(hall, other, new ArrayList<>()) ? 1 : 0;
        }
        return new int[] {joining, openIn(hall).size(), guests, hanging}[what];
    }

    int guest(int guest, int what) {
        if (!in(guest, 0, 2) || !in(what, 0, 3)) {
            return -1;
        }
        int could = 0;
        for (int door = 0; door < 10; door++) {
            could += reasonToOpen(guest, door) == 0 ? 1 : 0;
        }
        return new int[] {now.at[guest], bits(now.keys.get(guest)), could, now.walks[guest]}[what];
    }

    int whyNot(int door) {
        return in(door, 0, 9) ? reasonToOpen(-1, door) : -1;
    }

    int can(int doors) {
        if (!in(doors, 0, 1023)) {
            return -1;
        }
        TreeSet<Integer> set = set(doors);
        int[] inHall = new int[6];
        for (int door : set) {
            for (Integer cord : now.cords[door]) {
                if (cord != null && set.contains(cord)) {
                    return 0;
                }
            }
            for (int hall : now.halls.get(door)) {
                inHall[hall]++;
                if (inHall[hall] > now.draft) {
                    return 0;
                }
            }
        }
        return 1;
    }

    int together(int way) {
        if (!in(way, 0, 1)) {
            return -1;
        }
        int most = 0;
        for (int doors = 0; doors <= 1023; doors++) {
            most = can(doors) == 1 ? Math.max(most, set(doors).size()) : most;
        }
        return most;
    }

    /** Goes from state to state by deeds that are done on copies. */
    int deeds(int guest, int hall, int way) {
        if (!in(guest, 0, 2) || !in(hall, 0, 5) || !in(way, 0, 1)) {
            return -1;
        }
        World real = now;
        Map<Integer, Integer> far = new HashMap<>();
        ArrayDeque<World> waiting = new ArrayDeque<>();
        waiting.add(now);
        far.put(stateOf(now, guest), 0);
        int found = -4;
        while (found < 0 && !waiting.isEmpty()) {
            World here = waiting.removeFirst();
            int deeds = far.get(stateOf(here, guest));
            if (here.at[guest] == hall) {
                found = deeds;
            }
            for (int deed = 0; found < 0 && deed < 30; deed++) {
                now = here;
                char letter = "ocw".charAt(deed / 10);
                int reason = letter == 'o' ? reasonToOpen(guest, deed % 10) : reasonToUse(guest, deed % 10);
                if (reason == 0) {
                    now = here.copy();
                    deed(guest, letter, deed % 10);
                    if (far.putIfAbsent(stateOf(now, guest), deeds + 1) == null) {
                        waiting.addLast(now);
                    }
                }
            }
        }
        now = real;
        return found;
    }

    private static int stateOf(World world, int guest) {
        return bits(world.open) * 10 + world.at[guest];
    }

    private static int sum(int[] numbers) {
        int sum = 0;
        for (int number : numbers) {
            sum += number;
        }
        return sum;
    }

    private int cords(boolean open) {
        int cords = 0;
        for (int door = 0; door < 10; door++) {
            for (Integer cord : now.cords[door]) {
                cords += cord != null && now.open.contains(door) == open ? 1 : 0;
            }
        }
        return cords;
    }

    int count(int what) {
        if (!in(what, 0, 14)) {
            return -1;
        }
        int held = 0;
        for (int door = 0; door < 10; door++) {
            held += tightTo(door) > 0 ? 1 : 0;
        }
        int hallPairs = 0;
        for (int one = 0; one < 6; one++) {
            for (int other = 0; other < one; other++) {
                hallPairs += hang(one, other, new ArrayList<>()) ? 1 : 0;
            }
        }
        int doorPairs = 0;
        for (int one = 0; one < 10; one++) {
            for (int other = 0; other < one; other++) {
                boolean there = List.of(door(one, 3), door(one, 4)).contains(other);
                boolean back = List.of(door(other, 3), door(other, 4)).contains(one);
                doorPairs += there && back ? 1 : 0;
            }
        }
        int[] answers = {bits(now.open), now.open.size(), cords(true), cords(false), held, hallPairs, doorPairs,
            sum(now.opened), sum(now.shutByHand), sum(now.shutByCords), sum(now.shutByDrafts), now.refused,
            now.draft, pad.length(), history.size()};
        return answers[what];
    }

    double tightness() {
        int all = cords(true) + cords(false);
        return all == 0 ? 0.0 : (double) cords(true) / all;
    }

    int ifOpened(int door, int what) {
        if (!in(door, 0, 9) || !in(what, 0, 2)) {
            return -1;
        }
        if (reasonToOpen(-1, door) > 0) {
            return what == 0 ? bits(now.open) : 0;
        }
        World real = now;
        now = real.copy();
        List<List<Integer>> shut = opens(door);
        int[] answers = {bits(now.open), shut.get(0).size(), shut.get(1).size()};
        now = real;
        return answers[what];
    }

    int undo() {
        if (history.isEmpty()) {
            return -2;
        }
        now = history.removeLast();
        return history.size();
    }

    int save() {
        saved = now.copy();
        return bits(now.open);
    }

    int restore() {
        if (saved == null) {
            return -2;
        }
        record();
        now = saved.copy();
        return bits(now.open);
    }
}
