import java.util.Arrays;

/**
 * A loom of doors in which each opened door shuts two others by cords.
 * Sets of doors are told as bits: the door d counts 2 to the power of d.
 */
public final class CordDoors {
    public static final int INVALID_ARGUMENT = -1;
    public static final int NOT_POSSIBLE = -2;
    public static final int LIMIT_REACHED = -3;
    public static final int NOT_FOUND = -4;

    private static final int DOORS = 10;
    private static final int HALLS = 6;
    private static final int GUESTS = 3;
    private static final int ALL_DOORS = (1 << DOORS) - 1;
    private static final int NO_DOOR = 10;
    private static final int MOST_DRAFT = 10;
    private static final int PAD_LIMIT = 60;
    private static final int HISTORY_LIMIT = 4;
    private static final int LOWEST_CODE = 33;
    private static final int HIGHEST_CODE = 126;

    // What a deed answers: a reason below DONE, or DONE and what is told beside it.
    private static final int NO_REASON = 0;
    private static final int IS_OPEN = 1;
    private static final int IS_HELD = 2;
    private static final int IS_SHUT = 3;
    private static final int BOTH_OPEN = 4;
    private static final int NOT_IN_HALL = 5;
    private static final int NO_KEY = 6;
    private static final int DONE = 10;

    // A spot is a set of open doors and the hall in which a guest is.
    private static final int SPOTS = (ALL_DOORS + 1) * HALLS;

    private final State now = new State();
    private final History history = new History();
    private final State snapshot = new State();
    private boolean snapshotTaken = false;
    private final Pad pad = new Pad();
    private final Stop stop = new Stop();
    private final Ways ways = new Ways();

    public CordDoors() {
    }

    // ---- servants

    public int open(int door) {
        if (!isDoor(door)) {
            return INVALID_ARGUMENT;
        }
        history.record(now);
        return now.servantOpens(door);
    }

    public int shut(int door) {
        if (!isDoor(door)) {
            return INVALID_ARGUMENT;
        }
        history.record(now);
        return now.servantShuts(door);
    }

    // ---- cords, halls, keys

    public int cord(int door, boolean second, int other) {
        if (!isDoor(door) || !(isDoor(other) || other == NO_DOOR) || other == door) {
            return INVALID_ARGUMENT;
        }
        // Both cords may go to none, but never to the same door.
        if (other != NO_DOOR && other == now.loom.cordOf(door, !second)) {
            return INVALID_ARGUMENT;
        }
        history.record(now);
        return now.laysCord(door, second, other);
    }

    public int join(int door, int one, int other) {
        if (!isDoor(door) || !isHall(one) || !isHall(other) || one == other) {
            return INVALID_ARGUMENT;
        }
        if (now.isOpen(door)) {
            return NOT_POSSIBLE;
        }
        history.record(now);
        int before = 10 * now.loom.lesserHall(door) + now.loom.greaterHall(door);
        now.loom.hang(door, one, other);
        return before;
    }

    public int keys(int guest, int doors) {
        if (!isGuest(guest) || !isSetOfDoors(doors)) {
            return INVALID_ARGUMENT;
        }
        history.record(now);
        int before = now.guests.keySets[guest];
        now.guests.keySets[guest] = doors;
        return before;
    }

    public int draft(int draft) {
        if (draft < 1 || draft > MOST_DRAFT) {
            return INVALID_ARGUMENT;
        }
        history.record(now);
        int before = now.loom.draftSetting;
        now.loom.draftSetting = draft;
        return before;
    }

    // ---- guests

    public int guestOpens(int guest, int door) {
        if (!isGuest(guest) || !isDoor(door)) {
            return INVALID_ARGUMENT;
        }
        history.record(now);
        return now.opensAsGuest(guest, door);
    }

    public int guestShuts(int guest, int door) {
        if (!isGuest(guest) || !isDoor(door)) {
            return INVALID_ARGUMENT;
        }
        history.record(now);
        return now.shutsAsGuest(guest, door);
    }

    public int walk(int guest, int door) {
        if (!isGuest(guest) || !isDoor(door)) {
            return INVALID_ARGUMENT;
        }
        history.record(now);
        return now.walksThrough(guest, door);
    }

    // ---- texts

    public int append(int code) {
        if (code < LOWEST_CODE || code > HIGHEST_CODE) {
            return INVALID_ARGUMENT;
        }
        if (pad.length >= PAD_LIMIT) {
            return LIMIT_REACHED;
        }
        return pad.add(code);
    }

    public int clear() {
        return pad.empty();
    }

    public int fault() {
        return pad.faultPlace();
    }

    public int run() {
        if (pad.faultPlace() != NOT_FOUND) {
            return NOT_POSSIBLE;
        }
        history.record(now);
        stop.forget();
        int place = 0;
        int done = 0;
        // Each deed takes characters, so the pad's limit bounds their number.
        for (int number = 0; number < PAD_LIMIT && place < pad.length && !stop.happened(); number++) {
            int answer = runDeedAt(place);
            if (answer < DONE) {
                stop.remember(answer, number, place);
            } else {
                done++;
                place = pad.placeOfNextDeed(place);
            }
        }
        pad.empty();
        return done;
    }

    public int why(int what) {
        switch (what) {
            case 0:
                return stop.happened() ? stop.reason : NOT_FOUND;
            case 1:
                return stop.happened() ? stop.number : NOT_FOUND;
            case 2:
                return stop.happened() ? stop.place : NOT_FOUND;
            default:
                return INVALID_ARGUMENT;
        }
    }

    // ---- looks; nothing is changed

    public int door(int door, int what) {
        if (!isDoor(door)) {
            return INVALID_ARGUMENT;
        }
        Loom loom = now.loom;
        switch (what) {
            case 0:
                return now.isOpen(door) ? 1 : 0;
            case 1:
                return loom.lesserHall(door);
            case 2:
                return loom.greaterHall(door);
            case 3:
                return doorOrNotFound(loom.cordOf(door, false));
            case 4:
                return doorOrNotFound(loom.cordOf(door, true));
            case 5:
                return has(loom.heldBy(now.openDoors), door) ? 1 : 0;
            case 6:
                return loom.cordsTo(door, ALL_DOORS);
            case 7:
                return loom.cordsTo(door, now.openDoors);
            case 8:
                return now.accounts.openings[door];
            case 9:
                return now.accounts.shuttings[door];
            default:
                return INVALID_ARGUMENT;
        }
    }

    public int hall(int hall, int what) {
        if (!isHall(hall)) {
            return INVALID_ARGUMENT;
        }
        switch (what) {
            case 0:
                return Integer.bitCount(now.loom.doorsOf(hall));
            case 1:
                return Integer.bitCount(now.loom.doorsOf(hall) & now.openDoors);
            case 2:
                return now.guests.howManyIn(hall);
            case 3:
                return Integer.bitCount(now.loom.hallsFrom(hall, now.openDoors));
            default:
                return INVALID_ARGUMENT;
        }
    }

    public int guest(int guest, int what) {
        if (!isGuest(guest)) {
            return INVALID_ARGUMENT;
        }
        switch (what) {
            case 0:
                return now.guests.halls[guest];
            case 1:
                return now.guests.keySets[guest];
            case 2:
                return now.howManyCouldOpen(guest);
            case 3:
                return now.guests.walks[guest];
            default:
                return INVALID_ARGUMENT;
        }
    }

    public int whyNot(int door) {
        return isDoor(door) ? now.reasonNotToOpen(door) : INVALID_ARGUMENT;
    }

    public int together(int way) {
        switch (way) {
            case 0:
                return mostOfAllSets();
            case 1:
                return mostDoorByDoor(now.loom, 0, 0);
            default:
                return INVALID_ARGUMENT;
        }
    }

    public int can(int doors) {
        if (!isSetOfDoors(doors)) {
            return INVALID_ARGUMENT;
        }
        return now.loom.canBeOpen(doors) ? 1 : 0;
    }

    public int deeds(int guest, int hall, int way) {
        if (!isGuest(guest) || !isHall(hall)) {
            return INVALID_ARGUMENT;
        }
        int start = spot(now.openDoors, now.guests.halls[guest]);
        int keySet = now.guests.keySets[guest];
        switch (way) {
            case 0:
                return ways.fromNowOn(now.loom, start, keySet, hall);
            case 1:
                return ways.fromHallBack(now.loom, start, keySet, hall);
            default:
                return INVALID_ARGUMENT;
        }
    }

    public int count(int what) {
        Loom loom = now.loom;
        Accounts accounts = now.accounts;
        switch (what) {
            case 0:
                return now.openDoors;
            case 1:
                return Integer.bitCount(now.openDoors);
            case 2:
                return loom.cordsOf(now.openDoors);
            case 3:
                return loom.cordsOf(now.shutDoors());
            case 4:
                return Integer.bitCount(loom.heldBy(now.openDoors));
            case 5:
                return loom.pairsOfHalls(now.openDoors);
            case 6:
                return loom.pairsOfDoors();
            case 7:
                return accounts.opened;
            case 8:
                return accounts.shutByHand;
            case 9:
                return accounts.shutByCords;
            case 10:
                return accounts.shutByDrafts;
            case 11:
                return accounts.refused;
            case 12:
                return loom.draftSetting;
            case 13:
                return pad.length;
            case 14:
                return history.size;
            default:
                return INVALID_ARGUMENT;
        }
    }

    public double tightness() {
        int all = now.loom.cordsOf(ALL_DOORS);
        return all == 0 ? 0.0 : (double) now.loom.cordsOf(now.openDoors) / (double) all;
    }

    // ---- what would be; nothing is changed

    public int ifOpened(int door, int what) {
        if (!isDoor(door)) {
            return INVALID_ARGUMENT;
        }
        int before = now.openDoors;
        boolean refused = now.reasonNotToOpen(door) != NO_REASON;
        int afterCords = refused ? before : now.loom.afterCords(before, door);
        int afterDrafts = refused ? before : now.loom.afterDrafts(afterCords, door);
        switch (what) {
            case 0:
                return afterDrafts;
            case 1:
                return Integer.bitCount(before & ~afterCords);
            case 2:
                return Integer.bitCount(afterCords & ~afterDrafts);
            default:
                return INVALID_ARGUMENT;
        }
    }

    // ---- history, snapshot

    public int undo() {
        if (history.size == 0) {
            return NOT_POSSIBLE;
        }
        history.takeBack(now);
        return history.size;
    }

    public int save() {
        snapshot.copy(now);
        snapshotTaken = true;
        return now.openDoors;
    }

    public int restore() {
        if (!snapshotTaken) {
            return NOT_POSSIBLE;
        }
        history.record(now);
        now.copy(snapshot);
        return now.openDoors;
    }

    // ---- helpers of the face

    private static boolean isDoor(int number) {
        return number >= 0 && number < DOORS;
    }

    private static boolean isHall(int number) {
        return number >= 0 && number < HALLS;
    }

    private static boolean isGuest(int number) {
        return number >= 0 && number < GUESTS;
    }

    private static boolean isSetOfDoors(int number) {
        return number >= 0 && number <= ALL_DOORS;
    }

    private static boolean has(int set, int door) {
        return (set >> door & 1) != 0;
    }

    private static int without(int set, int door) {
        return set & ~(1 << door);
    }

    private static int spot(int openDoors, int hall) {
        return openDoors * HALLS + hall;
    }

    private static int doorOrNotFound(int door) {
        return door == NO_DOOR ? NOT_FOUND : door;
    }

    /** Runs a deed of a pad without a fault; answers below DONE if it is refused. */
    private int runDeedAt(int place) {
        int door = pad.doorOfDeed(place);
        int letter = pad.letterOfDeed(place);
        if (!pad.isGuestsDeed(place)) {
            return letter == 'o' ? now.servantOpens(door) : now.servantShuts(door);
        }
        int guest = pad.guestOfDeed(place);
        if (letter == 'w') {
            return now.walksThrough(guest, door);
        }
        return letter == 'o' ? now.opensAsGuest(guest, door) : now.shutsAsGuest(guest, door);
    }

    private int mostOfAllSets() {
        int most = 0;
        for (int set = 0; set <= ALL_DOORS; set++) {
            if (now.loom.canBeOpen(set)) {
                most = Math.max(most, Integer.bitCount(set));
            }
        }
        return most;
    }

    /** The most doors together with those taken, when each from this door on is taken or left. */
    private static int mostDoorByDoor(Loom loom, int door, int taken) {
        if (door >= DOORS) {
            return Integer.bitCount(taken);
        }
        int leavingIt = mostDoorByDoor(loom, door + 1, taken);
        int withIt = taken | 1 << door;
        if (!loom.canBeOpen(withIt)) {
            return leavingIt;
        }
        return Math.max(leavingIt, mostDoorByDoor(loom, door + 1, withIt));
    }

    /** How the doors hang: their cords, their halls, and the setting DRAFT. */
    private static final class Loom {
        private final int[] firstCords = new int[DOORS];
        private final int[] secondCords = new int[DOORS];
        private final int[] lesserHalls = new int[DOORS];
        private final int[] greaterHalls = new int[DOORS];
        // Kept beside the halls of the doors, since drafts and searches ask for it so often.
        private final int[] doorsOfHalls = new int[HALLS];
        private int draftSetting = 3;

        Loom() {
            for (int door = 0; door < DOORS; door++) {
                firstCords[door] = (door + 1) % DOORS;
                secondCords[door] = (door + 3) % DOORS;
                hang(door, door % HALLS, (door + 1) % HALLS);
            }
        }

        void copy(Loom other) {
            System.arraycopy(other.firstCords, 0, firstCords, 0, DOORS);
            System.arraycopy(other.secondCords, 0, secondCords, 0, DOORS);
            System.arraycopy(other.lesserHalls, 0, lesserHalls, 0, DOORS);
            System.arraycopy(other.greaterHalls, 0, greaterHalls, 0, DOORS);
            System.arraycopy(other.doorsOfHalls, 0, doorsOfHalls, 0, HALLS);
            draftSetting = other.draftSetting;
        }

        void hang(int door, int one, int other) {
            for (int hall = 0; hall < HALLS; hall++) {
                doorsOfHalls[hall] = without(doorsOfHalls[hall], door);
            }
            lesserHalls[door] = Math.min(one, other);
            greaterHalls[door] = Math.max(one, other);
            doorsOfHalls[one] |= 1 << door;
            doorsOfHalls[other] |= 1 << door;
        }

        int lesserHall(int door) {
            return lesserHalls[door];
        }

        int greaterHall(int door) {
            return greaterHalls[door];
        }

        boolean joins(int door, int hall) {
            return lesserHalls[door] == hall || greaterHalls[door] == hall;
        }

        int otherHall(int door, int hall) {
            return lesserHalls[door] == hall ? greaterHalls[door] : lesserHalls[door];
        }

        int doorsOf(int hall) {
            return doorsOfHalls[hall];
        }

        int cordOf(int door, boolean second) {
            return second ? secondCords[door] : firstCords[door];
        }

        void layCord(int door, boolean second, int other) {
            if (second) {
                secondCords[door] = other;
            } else {
                firstCords[door] = other;
            }
        }

        /** The doors to which the cords of a door go; the mask drops the bit of "none". */
        int targetsOf(int door) {
            return (1 << firstCords[door] | 1 << secondCords[door]) & ALL_DOORS;
        }

        /** The doors that are held if these are open. */
        int heldBy(int openDoors) {
            int held = 0;
            for (int door = 0; door < DOORS; door++) {
                if (has(openDoors, door)) {
                    held |= targetsOf(door);
                }
            }
            return held;
        }

        int cordsOf(int doors) {
            int cords = 0;
            for (int door = 0; door < DOORS; door++) {
                if (has(doors, door)) {
                    cords += Integer.bitCount(targetsOf(door));
                }
            }
            return cords;
        }

        /** How many cords of these doors go to the target. */
        int cordsTo(int target, int doors) {
            int cords = 0;
            for (int door = 0; door < DOORS; door++) {
                if (has(doors, door) && has(targetsOf(door), target)) {
                    cords++;
                }
            }
            return cords;
        }

        /** Pairs of doors with cords from each to the other. */
        int pairsOfDoors() {
            int pairs = 0;
            for (int one = 0; one < DOORS; one++) {
                for (int other = one + 1; other < DOORS; other++) {
                    if (has(targetsOf(one), other) && has(targetsOf(other), one)) {
                        pairs++;
                    }
                }
            }
            return pairs;
        }

        boolean canBeOpen(int doors) {
            if ((heldBy(doors) & doors) != 0) {
                return false;
            }
            for (int hall = 0; hall < HALLS; hall++) {
                if (hasTooMany(hall, doors)) {
                    return false;
                }
            }
            return true;
        }

        private boolean hasTooMany(int hall, int openDoors) {
            return Integer.bitCount(doorsOfHalls[hall] & openDoors) > draftSetting;
        }

        int afterOpening(int openDoors, int door) {
            return afterDrafts(afterCords(openDoors, door), door);
        }

        int afterCords(int openDoors, int door) {
            return (openDoors | 1 << door) & ~targetsOf(door);
        }

        int afterDrafts(int openDoors, int opened) {
            int left = openDoors;
            for (int hall = 0; hall < HALLS; hall++) {
                for (int slammed = 0; slammed < DOORS && hasTooMany(hall, left); slammed++) {
                    int movable = without(left & doorsOfHalls[hall], opened);
                    int lowest = movable & -movable;
                    left &= ~lowest;
                }
            }
            return left;
        }

        /** The set of halls, as bits, that hang together with a hall, itself, too. */
        int hallsFrom(int hall, int openDoors) {
            int halls = 1 << hall;
            // A round may add one hall only, so there are as many rounds as halls.
            for (int round = 0; round < HALLS; round++) {
                for (int door = 0; door < DOORS; door++) {
                    int both = 1 << lesserHalls[door] | 1 << greaterHalls[door];
                    if (has(openDoors, door) && (halls & both) != 0) {
                        halls |= both;
                    }
                }
            }
            return halls;
        }

        int pairsOfHalls(int openDoors) {
            int ordered = 0;
            for (int hall = 0; hall < HALLS; hall++) {
                ordered += Integer.bitCount(hallsFrom(hall, openDoors)) - 1;
            }
            return ordered / 2;
        }
    }

    /** Where the guests are, which keys they have, and how often they walked. */
    private static final class Guests {
        private final int[] halls = new int[GUESTS];
        private final int[] keySets = new int[GUESTS];
        private final int[] walks = new int[GUESTS];

        void copy(Guests other) {
            System.arraycopy(other.halls, 0, halls, 0, GUESTS);
            System.arraycopy(other.keySets, 0, keySets, 0, GUESTS);
            System.arraycopy(other.walks, 0, walks, 0, GUESTS);
        }

        int howManyIn(int hall) {
            int found = 0;
            for (int guest = 0; guest < GUESTS; guest++) {
                if (halls[guest] == hall) {
                    found++;
                }
            }
            return found;
        }
    }

    /** What happened so far. */
    private static final class Accounts {
        private final int[] openings = new int[DOORS];
        private final int[] shuttings = new int[DOORS];
        private int opened = 0;
        private int shutByHand = 0;
        private int shutByCords = 0;
        private int shutByDrafts = 0;
        private int refused = 0;

        void copy(Accounts other) {
            System.arraycopy(other.openings, 0, openings, 0, DOORS);
            System.arraycopy(other.shuttings, 0, shuttings, 0, DOORS);
            opened = other.opened;
            shutByHand = other.shutByHand;
            shutByCords = other.shutByCords;
            shutByDrafts = other.shutByDrafts;
            refused = other.refused;
        }

        void noteOpened(int door) {
            openings[door]++;
            opened++;
        }

        void noteShutByHand(int door) {
            shuttings[door]++;
            shutByHand++;
        }

        void noteShutByOpening(int byCords, int byDrafts) {
            shutByCords += Integer.bitCount(byCords);
            shutByDrafts += Integer.bitCount(byDrafts);
            for (int door = 0; door < DOORS; door++) {
                if (has(byCords | byDrafts, door)) {
                    shuttings[door]++;
                }
            }
        }

        int noteRefused(int reason) {
            refused++;
            return reason;
        }
    }

    /** All that is undone and restored, and the deeds that change it. */
    private static final class State {
        private final Loom loom = new Loom();
        private final Guests guests = new Guests();
        private final Accounts accounts = new Accounts();
        private int openDoors = 0;

        void copy(State other) {
            loom.copy(other.loom);
            guests.copy(other.guests);
            accounts.copy(other.accounts);
            openDoors = other.openDoors;
        }

        boolean isOpen(int door) {
            return has(openDoors, door);
        }

        int shutDoors() {
            return ALL_DOORS & ~openDoors;
        }

        int reasonNotToOpen(int door) {
            if (isOpen(door)) {
                return IS_OPEN;
            }
            return has(loom.heldBy(openDoors), door) ? IS_HELD : NO_REASON;
        }

        private int reasonNotToShut(int door) {
            return isOpen(door) ? NO_REASON : IS_SHUT;
        }

        private boolean isAtDoor(int guest, int door) {
            return loom.joins(door, guests.halls[guest]);
        }

        private int reasonNotToOpenAsGuest(int guest, int door) {
            if (!isAtDoor(guest, door)) {
                return NOT_IN_HALL;
            }
            return has(guests.keySets[guest], door) ? reasonNotToOpen(door) : NO_KEY;
        }

        private int reasonNotToUse(int guest, int door) {
            return isAtDoor(guest, door) ? reasonNotToShut(door) : NOT_IN_HALL;
        }

        int howManyCouldOpen(int guest) {
            int could = 0;
            for (int door = 0; door < DOORS; door++) {
                if (reasonNotToOpenAsGuest(guest, door) == NO_REASON) {
                    could++;
                }
            }
            return could;
        }

        int servantOpens(int door) {
            return opensUnless(reasonNotToOpen(door), door);
        }

        int servantShuts(int door) {
            return shutsUnless(reasonNotToShut(door), door);
        }

        int opensAsGuest(int guest, int door) {
            return opensUnless(reasonNotToOpenAsGuest(guest, door), door);
        }

        int shutsAsGuest(int guest, int door) {
            return shutsUnless(reasonNotToUse(guest, door), door);
        }

        int walksThrough(int guest, int door) {
            int reason = reasonNotToUse(guest, door);
            if (reason != NO_REASON) {
                return accounts.noteRefused(reason);
            }
            guests.halls[guest] = loom.otherHall(door, guests.halls[guest]);
            guests.walks[guest]++;
            return DONE + guests.halls[guest];
        }

        int laysCord(int door, boolean second, int other) {
            if (isOpen(door) && other != NO_DOOR && isOpen(other)) {
                return accounts.noteRefused(BOTH_OPEN);
            }
            loom.layCord(door, second, other);
            return DONE;
        }

        private int opensUnless(int reason, int door) {
            if (reason != NO_REASON) {
                return accounts.noteRefused(reason);
            }
            int afterCords = loom.afterCords(openDoors, door);
            int afterDrafts = loom.afterDrafts(afterCords, door);
            int byCords = openDoors & ~afterCords;
            int byDrafts = afterCords & ~afterDrafts;
            accounts.noteOpened(door);
            accounts.noteShutByOpening(byCords, byDrafts);
            openDoors = afterDrafts;
            return DONE + Integer.bitCount(byCords | byDrafts);
        }

        private int shutsUnless(int reason, int door) {
            if (reason != NO_REASON) {
                return accounts.noteRefused(reason);
            }
            accounts.noteShutByHand(door);
            openDoors = without(openDoors, door);
            return DONE;
        }
    }

    /** The latest states before changes; the oldest one makes room. */
    private static final class History {
        private final State[] states = new State[HISTORY_LIMIT];
        private int oldest = 0;
        private int size = 0;

        History() {
            for (int slot = 0; slot < HISTORY_LIMIT; slot++) {
                states[slot] = new State();
            }
        }

        void record(State state) {
            slotBehind(size).copy(state);
            if (size < HISTORY_LIMIT) {
                size++;
            } else {
                oldest = (oldest + 1) % HISTORY_LIMIT;
            }
        }

        void takeBack(State into) {
            if (size > 0) {
                size--;
                into.copy(slotBehind(size));
            }
        }

        /** The slot that is so many behind the oldest state; floorMod answers an index for any number. */
        private State slotBehind(int number) {
            return states[Math.floorMod(oldest + number, HISTORY_LIMIT)];
        }
    }

    /** Where and why the latest run stopped. */
    private static final class Stop {
        private int reason = NO_REASON;
        private int number = 0;
        private int place = 0;

        void forget() {
            reason = NO_REASON;
        }

        void remember(int theReason, int theNumber, int thePlace) {
            reason = theReason;
            number = theNumber;
            place = thePlace;
        }

        boolean happened() {
            return reason != NO_REASON;
        }
    }

    /** The text of deeds. What asks about a deed at a place is for a pad without a fault. */
    private static final class Pad {
        // What may come next in a text of deeds.
        private static final int DEED = 0;
        private static final int GUEST = 1;
        private static final int GUESTS_LETTER = 2;
        private static final int DOOR = 3;
        private static final int SEMICOLON = 4;
        private static final int NOTHING = 5;

        private final int[] codes = new int[PAD_LIMIT];
        private int length = 0;

        int add(int code) {
            if (length < PAD_LIMIT) {
                codes[length] = code;
                length++;
            }
            return length;
        }

        int empty() {
            int before = length;
            length = 0;
            return before;
        }

        int faultPlace() {
            int expected = DEED;
            for (int place = 0; place < length; place++) {
                expected = expectedAfter(expected, codeAt(place));
                if (expected == NOTHING) {
                    return place;
                }
            }
            return expected == SEMICOLON ? NOT_FOUND : length;
        }

        private static int expectedAfter(int expected, int code) {
            switch (expected) {
                case DEED:
                    if (code == 'g') {
                        return GUEST;
                    }
                    return code == 'o' || code == 'c' ? DOOR : NOTHING;
                case GUEST:
                    return isGuest(code - '0') ? GUESTS_LETTER : NOTHING;
                case GUESTS_LETTER:
                    return code == 'o' || code == 'c' || code == 'w' ? DOOR : NOTHING;
                case DOOR:
                    return isDoor(code - '0') ? SEMICOLON : NOTHING;
                case SEMICOLON:
                    return code == ';' ? DEED : NOTHING;
                default:
                    return NOTHING;
            }
        }

        private int codeAt(int place) {
            return place >= 0 && place < length ? codes[place] : 0;
        }

        boolean isGuestsDeed(int place) {
            return codeAt(place) == 'g';
        }

        int guestOfDeed(int place) {
            return codeAt(place + 1) - '0';
        }

        int letterOfDeed(int place) {
            return codeAt(placeOfLetter(place));
        }

        int doorOfDeed(int place) {
            return codeAt(placeOfLetter(place) + 1) - '0';
        }

        /** Behind the letter come the door and the semicolon. */
        int placeOfNextDeed(int place) {
            return placeOfLetter(place) + 3;
        }

        private int placeOfLetter(int place) {
            return isGuestsDeed(place) ? place + 2 : place;
        }
    }

    /** The fewest deeds of a guest to a hall. */
    private static final class Ways {
        private static final int UNKNOWN = SPOTS;

        private final int[] fewest = new int[SPOTS];
        private final int[] line = new int[SPOTS];
        private int inLine = 0;

        /** Told from the start on: the spots are looked at by rising numbers of deeds. */
        int fromNowOn(Loom loom, int start, int keySet, int goal) {
            Arrays.fill(fewest, UNKNOWN);
            inLine = 0;
            reach(start, 0);
            for (int next = 0; next < inLine && next < SPOTS; next++) {
                int spot = line[next];
                int deedsSoFar = fewestOf(spot);
                if (spot % HALLS == goal) {
                    return deedsSoFar;
                }
                goOnFrom(loom, spot, keySet, deedsSoFar + 1);
            }
            return NOT_FOUND;
        }

        private void goOnFrom(Loom loom, int spot, int keySet, int deedsThen) {
            int openDoors = spot / HALLS;
            int hall = spot % HALLS;
            int couldOpen = keySet & ~openDoors & ~loom.heldBy(openDoors);
            for (int door = 0; door < DOORS; door++) {
                if (!loom.joins(door, hall)) {
                    continue;
                }
                if (has(openDoors, door)) {
                    reach(spot(openDoors, loom.otherHall(door, hall)), deedsThen);
                    reach(spot(without(openDoors, door), hall), deedsThen);
                } else if (has(couldOpen, door)) {
                    reach(spot(loom.afterOpening(openDoors, door), hall), deedsThen);
                }
            }
        }

        private static boolean isSpot(int number) {
            return number >= 0 && number < SPOTS;
        }

        private int fewestOf(int spot) {
            return isSpot(spot) ? fewest[spot] : UNKNOWN;
        }

        private void reach(int spot, int deedsThen) {
            if (isSpot(spot) && fewest[spot] == UNKNOWN && inLine < SPOTS) {
                fewest[spot] = deedsThen;
                line[inLine] = spot;
                inLine++;
            }
        }

        /** Told from the goal back: all spots that could be are looked at until nothing becomes less. */
        int fromHallBack(Loom loom, int start, int keySet, int goal) {
            Arrays.fill(fewest, UNKNOWN);
            // Without a key no shut door opens.
            lineUpSets(loom, start / HALLS | keySet);
            for (int next = 0; next < inLine && next < SPOTS; next++) {
                begin(spot(line[next], goal));
            }
            int lessened = 1;
            // A way passes no spot twice, so there are fewer rounds than spots.
            for (int round = 0; round < SPOTS && lessened > 0; round++) {
                lessened = 0;
                for (int next = 0; next < inLine && next < SPOTS; next++) {
                    lessened += lessenAll(loom, line[next], keySet);
                }
            }
            return fewestOf(start) == UNKNOWN ? NOT_FOUND : fewestOf(start);
        }

        private void begin(int spot) {
            if (isSpot(spot)) {
                fewest[spot] = 0;
            }
        }

        /** Puts the sets of doors in line that could be open, if no other doors than these ever are. */
        private void lineUpSets(Loom loom, int everOpen) {
            inLine = 0;
            for (int openDoors = 0; openDoors <= ALL_DOORS && inLine < SPOTS; openDoors++) {
                boolean noOther = (openDoors & ~everOpen) == 0;
                if (noOther && (loom.heldBy(openDoors) & openDoors) == 0) {
                    line[inLine] = openDoors;
                    inLine++;
                }
            }
        }

        /** Looks at all halls with these doors open; answers how often a number became less. */
        private int lessenAll(Loom loom, int openDoors, int keySet) {
            int couldOpen = keySet & ~openDoors & ~loom.heldBy(openDoors);
            int lessened = 0;
            for (int door = 0; door < DOORS; door++) {
                int one = loom.lesserHall(door);
                int other = loom.greaterHall(door);
                int openThen;
                if (has(openDoors, door)) {
                    lessened += lessen(spot(openDoors, one), spot(openDoors, other));
                    lessened += lessen(spot(openDoors, other), spot(openDoors, one));
                    openThen = without(openDoors, door);
                } else if (has(couldOpen, door)) {
                    openThen = loom.afterOpening(openDoors, door);
                } else {
                    continue;
                }
                lessened += lessen(spot(openDoors, one), spot(openThen, one));
                lessened += lessen(spot(openDoors, other), spot(openThen, other));
            }
            return lessened;
        }

        /** Answers 1 if the number of a spot became less by a deed that leads to the next one, otherwise 0. */
        private int lessen(int spot, int next) {
            if (!isSpot(spot) || !isSpot(next) || fewest[next] + 1 >= fewest[spot]) {
                return 0;
            }
            fewest[spot] = fewest[next] + 1;
            return 1;
        }
    }
}
