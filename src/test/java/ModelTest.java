/** Long runs of calls, the same ones each time, whose answers PlainDoors has to give, too. */
public final class ModelTest {
    private static final int RUNS = 600;
    private static final int CALLS = 512;
    private static final Check CHECK = new Check();

    private final Draws draws;
    private final CordDoors doors = new CordDoors();
    private final PlainDoors plain = new PlainDoors();
    private final String name;
    private int call = 0;

    private ModelTest(int run) {
        draws = new Draws(run);
        name = "run " + run;
    }

    public static void main(String[] args) {
        for (int run = 0; run < RUNS && !CHECK.hasWrong(); run++) {
            new ModelTest(run).go(run);
        }
        CHECK.end("ModelTest");
    }

    private void go(int run) {
        // Runs differ in what they begin with, so that rare states come up in some of them.
        if (run % 3 == 1) {
            for (int door = 0; door < 10; door++) {
                cord(door, false, 10);
                cord(door, true, draws.oneIn(4) ? (door + 1 + draws.below(9)) % 10 : 10);
            }
        }
        if (run % 2 == 1) {
            for (int guest = 0; guest < 3; guest++) {
                keys(guest, 1023);
            }
        }
        if (run % 5 == 2) {
            draft(10);
        }
        if (run % 7 == 3) {
            for (int door = 0; door < 10; door++) {
                join(door, draws.below(3), 3 + draws.below(3));
            }
        }
        while (call < CALLS - 70 && !CHECK.hasWrong()) {
            if (draws.oneIn(12)) {
                text();
            } else if (draws.below(100) < 55) {
                change();
            } else {
                look();
            }
        }
        // A look takes three calls at most, and an object is used for 512.
        while (call < CALLS - 2 && !CHECK.hasWrong()) {
            look();
        }
    }

    private void same(String what, double got, double due) {
        CHECK.sameDouble(name + ", call " + call + ": " + what, got, due);
        call++;
    }

    private int upTo(int most) {
        return draws.oneIn(60) ? outside(most) : draws.below(most + 1);
    }

    /** Once in a while a number out of the range: close to it, or anywhere. */
    private int outside(int most) {
        switch (draws.below(4)) {
            case 0:
                return -1 - draws.below(40);
            case 1:
                return most + 1 + draws.below(40);
            case 2:
                return draws.oneIn(2) ? Integer.MIN_VALUE + draws.below(most + 1) : Integer.MAX_VALUE;
            default:
                return draws.below(1 << 16) << 16 | draws.below(1 << 16);
        }
    }

    private void cord(int door, boolean second, int other) {
        same("cord(" + door + ", " + second + ", " + other + ")",
            doors.cord(door, second, other), plain.cord(door, second, other));
    }

    private void join(int door, int one, int other) {
        same("join(" + door + ", " + one + ", " + other + ")", doors.join(door, one, other), plain.join(door, one, other));
    }

    private void keys(int guest, int set) {
        same("keys(" + guest + ", " + set + ")", doors.keys(guest, set), plain.keys(guest, set));
    }

    private void draft(int draft) {
        same("draft(" + draft + ")", doors.draft(draft), plain.draft(draft));
    }

    private void change() {
        int door = upTo(9);
        int guest = upTo(2);
        switch (draws.below(20)) {
            case 0: case 1: case 2: case 3: case 4:
                same("open(" + door + ")", doors.open(door), plain.open(door));
                break;
            case 5: case 6:
                same("shut(" + door + ")", doors.shut(door), plain.shut(door));
                break;
            case 7: case 8:
                cord(door, draws.oneIn(2), upTo(10));
                break;
            case 9:
                join(door, upTo(5), upTo(5));
                break;
            case 10:
                keys(guest, draws.oneIn(2) ? 1023 : upTo(1023));
                break;
            case 11:
                draft(upTo(10));
                break;
            case 12: case 13:
                same("guestOpens(" + guest + ", " + door + ")", doors.guestOpens(guest, door), plain.guestOpens(guest, door));
                break;
            case 14:
                same("guestShuts(" + guest + ", " + door + ")", doors.guestShuts(guest, door), plain.guestShuts(guest, door));
                break;
            case 15: case 16:
                same("walk(" + guest + ", " + door + ")", doors.walk(guest, door), plain.walk(guest, door));
                break;
            case 17:
                same("undo()", doors.undo(), plain.undo());
                break;
            case 18:
                same("save()", doors.save(), plain.save());
                break;
            default:
                same("restore()", doors.restore(), plain.restore());
                break;
        }
    }

    private void look() {
        int door = upTo(9);
        switch (draws.below(12)) {
            case 0: case 1: {
                int what = upTo(9);
                same("door(" + door + ", " + what + ")", doors.door(door, what), plain.door(door, what));
                break;
            }
            case 2: {
                int hall = upTo(5);
                int what = upTo(3);
                same("hall(" + hall + ", " + what + ")", doors.hall(hall, what), plain.hall(hall, what));
                break;
            }
            case 3: {
                int guest = upTo(2);
                int what = upTo(3);
                same("guest(" + guest + ", " + what + ")", doors.guest(guest, what), plain.guest(guest, what));
                break;
            }
            case 4:
                same("whyNot(" + door + ")", doors.whyNot(door), plain.whyNot(door));
                break;
            case 5:
                rareLook();
                break;
            case 6: {
                int set = upTo(1023) & (draws.oneIn(2) ? -1 : draws.below(1024));
                same("can(" + set + ")", doors.can(set), plain.can(set));
                break;
            }
            case 7: {
                int what = upTo(2);
                same("why(" + what + ")", doors.why(what), plain.why(what));
                break;
            }
            case 8:
                same("tightness()", doors.tightness(), plain.tightness());
                break;
            case 9: {
                int what = upTo(2);
                same("ifOpened(" + door + ", " + what + ")", doors.ifOpened(door, what), plain.ifOpened(door, what));
                break;
            }
            default: {
                int what = upTo(14);
                same("count(" + what + ")", doors.count(what), plain.count(what));
                break;
            }
        }
    }

    private void rareLook() {
        if (draws.oneIn(3)) {
            int way = upTo(1);
            same("together(" + way + ")", doors.together(way), plain.together(way));
            return;
        }
        int guest = upTo(2);
        int hall = upTo(5);
        int due = plain.deeds(guest, hall, 0);
        same("deeds(" + guest + ", " + hall + ", 0)", doors.deeds(guest, hall, 0), due);
        same("deeds(" + guest + ", " + hall + ", 1)", doors.deeds(guest, hall, 1), due);
        int way = upTo(1);
        if (way < 0 || way > 1) {
            same("deeds(" + guest + ", " + hall + ", " + way + ")", doors.deeds(guest, hall, way), -1);
        }
    }

    private String deed() {
        String guest = draws.oneIn(2) ? "" : "g" + draws.below(3);
        String letters = guest.isEmpty() ? "ooc" : "oocw";
        return guest + letters.charAt(draws.below(letters.length())) + draws.below(10);
    }

    /** Appends deeds, with a wrong character at times, and runs them. */
    private void text() {
        StringBuilder text = new StringBuilder(deed());
        int more = draws.below(draws.oneIn(8) ? 20 : 4);
        for (int part = 0; part < more; part++) {
            text.append(';').append(deed());
        }
        if (draws.oneIn(4)) {
            text.setCharAt(draws.below(text.length()), (char) (33 + draws.below(94)));
        }
        if (draws.oneIn(6)) {
            text.setLength(draws.below(text.length() + 1));
        }
        for (int place = 0; place < text.length() && call < CALLS - 75; place++) {
            int code = draws.oneIn(200) ? upTo(300) - 20 : text.charAt(place);
            same("append(" + code + ")", doors.append(code), plain.append(code));
        }
        same("fault()", doors.fault(), plain.fault());
        if (!draws.oneIn(8)) {
            same("run()", doors.run(), plain.run());
        }
        if (draws.oneIn(2)) {
            same("clear()", doors.clear(), plain.clear());
        }
    }
}
