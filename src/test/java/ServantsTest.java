/** Promises 1 to 3: a new object, open, shut. */
public final class ServantsTest {
    private static final Check CHECK = new Check();

    public static void main(String[] args) {
        newObject();
        openOrdinary();
        openShutsByCords();
        openBlowsDrafts();
        draftsGoByRisingHalls();
        openWrong();
        shut();
        shutWrong();
        CHECK.end("ServantsTest");
    }

    private static void newObject() {
        CordDoors x = new CordDoors();
        for (int what = 0; what <= 14; what++) {
            int due = what == 3 ? 20 : what == 12 ? 3 : 0;
            CHECK.same("new: count(" + what + ")", x.count(what), due);
        }
        for (int door = 0; door < 10; door++) {
            int one = door % 6;
            int other = (door + 1) % 6;
            CHECK.same("new: door(" + door + ", 0)", x.door(door, 0), 0);
            CHECK.same("new: door(" + door + ", 1)", x.door(door, 1), Math.min(one, other));
            CHECK.same("new: door(" + door + ", 2)", x.door(door, 2), Math.max(one, other));
            CHECK.same("new: door(" + door + ", 3)", x.door(door, 3), (door + 1) % 10);
            CHECK.same("new: door(" + door + ", 4)", x.door(door, 4), (door + 3) % 10);
            CHECK.same("new: door(" + door + ", 5)", x.door(door, 5), 0);
            CHECK.same("new: door(" + door + ", 6)", x.door(door, 6), 2);
            CHECK.same("new: door(" + door + ", 7)", x.door(door, 7), 0);
            CHECK.same("new: door(" + door + ", 8)", x.door(door, 8), 0);
            CHECK.same("new: door(" + door + ", 9)", x.door(door, 9), 0);
        }
        for (int guest = 0; guest < 3; guest++) {
            for (int what = 0; what <= 3; what++) {
                CHECK.same("new: guest(" + guest + ", " + what + ")", x.guest(guest, what), 0);
            }
        }
        int[] doorsOfHall = {3, 4, 4, 4, 3, 2};
        for (int hall = 0; hall < 6; hall++) {
            CHECK.same("new: hall(" + hall + ", 0)", x.hall(hall, 0), doorsOfHall[hall]);
            CHECK.same("new: hall(" + hall + ", 1)", x.hall(hall, 1), 0);
            CHECK.same("new: hall(" + hall + ", 2)", x.hall(hall, 2), hall == 0 ? 3 : 0);
            CHECK.same("new: hall(" + hall + ", 3)", x.hall(hall, 3), 1);
        }
        CHECK.sameDouble("new: tightness()", x.tightness(), 0.0);
        CHECK.same("new: fault()", x.fault(), 0);
        CHECK.same("new: why(0)", x.why(0), CordDoors.NOT_FOUND);
        CHECK.same("new: undo()", x.undo(), CordDoors.NOT_POSSIBLE);
        CHECK.same("new: restore()", x.restore(), CordDoors.NOT_POSSIBLE);
        CordDoors one = new CordDoors();
        one.open(4);
        CHECK.same("another object is its own", x.count(0), 0);
    }

    private static void openOrdinary() {
        for (int door = 0; door < 10; door++) {
            CordDoors x = new CordDoors();
            CHECK.same("open(" + door + ")", x.open(door), 10);
            CHECK.same("the set", x.count(0), 1 << door);
            CHECK.same("history", x.count(14), 1);
            CHECK.same("again", x.open(door), 1);
            CHECK.same("its first cord holds", x.open((door + 1) % 10), 2);
            CHECK.same("its second cord holds", x.open((door + 3) % 10), 2);
            CHECK.same("still", x.count(0), 1 << door);
            CHECK.same("refused ones are counted", x.count(11), 3);
            CHECK.same("refused ones are changes", x.count(14), 4);
            CHECK.same("openings", x.door(door, 8), 1);
            CHECK.same("all openings", x.count(7), 1);
        }
    }

    private static void openShutsByCords() {
        CordDoors x = new CordDoors();
        x.open(2);
        x.open(4);
        CHECK.same("two are open", x.count(0), 4 + 16);
        CHECK.same("both cords shut", x.open(1), 12);
        CHECK.same("one is open", x.count(0), 2);
        CHECK.same("by cords", x.count(9), 2);
        CHECK.same("by hand", x.count(8), 0);
        CHECK.same("by drafts", x.count(10), 0);
        CHECK.same("2 shut once", x.door(2, 9), 1);
        CHECK.same("4 shut once", x.door(4, 9), 1);
        CHECK.same("1 never shut", x.door(1, 9), 0);
        CHECK.same("2 is held", x.open(2), 2);
        CHECK.same("4 is held", x.open(4), 2);
        CHECK.same("the first cord shuts", x.open(0), 11);
        CHECK.same("only 0 is open", x.count(0), 1);
        x = new CordDoors();
        x.open(3);
        CHECK.same("the second cord shuts", x.open(0), 11);
        CHECK.same("only 0 is open then", x.count(0), 1);
    }

    private static void openBlowsDrafts() {
        CordDoors x = Setup.withoutCords();
        x.open(0);
        x.open(1);
        CHECK.same("three in hall 1", x.open(6), 10);
        CHECK.same("four in hall 1: the lowest slams", x.open(7), 11);
        CHECK.same("without 0", x.count(0), 2 + 64 + 128);
        CHECK.same("by drafts", x.count(10), 1);
        CHECK.same("by cords", x.count(9), 0);
        CHECK.same("0 shut once", x.door(0, 9), 1);
        CHECK.same("the opened one is left aside", x.open(0), 11);
        CHECK.same("without 1", x.count(0), 1 + 64 + 128);
        CHECK.same("by drafts then", x.count(10), 2);

        x = Setup.withoutCords();
        x.draft(1);
        x.cord(0, false, 5);
        x.open(5);
        CHECK.same("cords come ahead of drafts", x.open(0), 11);
        CHECK.same("that was a cord", x.count(9), 1);
        CHECK.same("and no draft", x.count(10), 0);

        x = allOpen();
        x.draft(1);
        CHECK.same("setting DRAFT shuts none", x.count(0), 1023);
        CHECK.same("refused, no draft blows", x.open(3), 1);
        CHECK.same("all are open still", x.count(0), 1023);
        x.shut(9);
        CHECK.same("all others slam", x.open(9), 19);
        CHECK.same("one is left", x.count(0), 512);
        CHECK.same("nine by drafts", x.count(10), 9);
        x = allOpen();
        x.draft(2);
        x.shut(9);
        CHECK.same("four slam", x.open(9), 14);
        CHECK.same("0 to 3 slammed", x.count(0), 1023 - 15);
    }

    private static CordDoors allOpen() {
        CordDoors x = Setup.withoutCords();
        x.draft(10);
        for (int door = 0; door < 10; door++) {
            CHECK.same("open(" + door + ") of all", x.open(door), 10);
        }
        return x;
    }

    private static void draftsGoByRisingHalls() {
        CordDoors x = Setup.withoutCords();
        x.draft(10);
        x.join(1, 0, 1);
        x.join(2, 0, 2);
        x.join(0, 1, 3);
        x.join(9, 4, 5);
        x.open(0);
        x.open(1);
        x.open(2);
        x.draft(1);
        CHECK.same("drafts blow in halls that the door does not join, too", x.open(9), 11);
        CHECK.same("hall 0 is ahead of hall 1", x.count(0), 1 + 4 + 512);
    }

    private static void openWrong() {
        CordDoors x = new CordDoors();
        x.open(2);
        for (int door : Setup.OUT_OF_DOORS) {
            CHECK.same("open(" + door + ")", x.open(door), CordDoors.INVALID_ARGUMENT);
        }
        CHECK.same("nothing changed", x.count(0), 4);
        CHECK.same("no refusal", x.count(11), 0);
        CHECK.same("no change", x.count(14), 1);
    }

    private static void shut() {
        CordDoors x = new CordDoors();
        CHECK.same("a shut one", x.shut(5), 3);
        CHECK.same("is refused", x.count(11), 1);
        CHECK.same("is a change", x.count(14), 1);
        x.open(5);
        x.open(3);
        CHECK.same("an open one", x.shut(5), 10);
        CHECK.same("the other stays", x.count(0), 8);
        CHECK.same("by hand", x.count(8), 1);
        CHECK.same("shut once", x.door(5, 9), 1);
        CHECK.same("not the other", x.door(3, 9), 0);
        CHECK.same("again", x.shut(5), 3);
        CHECK.same("8 is held no more", x.open(8), 10);
        CHECK.same("4 is held still", x.open(4), 2);
    }

    private static void shutWrong() {
        CordDoors x = new CordDoors();
        x.open(2);
        for (int door : Setup.OUT_OF_DOORS) {
            CHECK.same("shut(" + door + ")", x.shut(door), CordDoors.INVALID_ARGUMENT);
        }
        CHECK.same("nothing changed", x.count(0), 4);
        CHECK.same("no refusal", x.count(11), 0);
        CHECK.same("no change", x.count(14), 1);
    }
}
