/** Promises 4 to 7: cord, join, keys, draft. */
public final class SettingsTest {
    private static final Check CHECK = new Check();

    public static void main(String[] args) {
        cordLays();
        cordRefuses();
        cordWrong();
        join();
        joinWrong();
        keys();
        keysWrong();
        draft();
        draftWrong();
        CHECK.end("SettingsTest");
    }

    private static void cordLays() {
        CordDoors x = new CordDoors();
        CHECK.same("first", x.cord(0, false, 9), 10);
        CHECK.same("first goes to 9", x.door(0, 3), 9);
        CHECK.same("second stays", x.door(0, 4), 3);
        CHECK.same("second", x.cord(0, true, 1), 10);
        CHECK.same("second goes to 1", x.door(0, 4), 1);
        CHECK.same("first stays", x.door(0, 3), 9);
        CHECK.same("the same again", x.cord(0, true, 1), 10);
        CHECK.same("that is a change, too", x.count(14), 3);
        CHECK.same("first none", x.cord(0, false, 10), 10);
        CHECK.same("first is none", x.door(0, 3), CordDoors.NOT_FOUND);
        CHECK.same("both none", x.cord(0, true, 10), 10);
        CHECK.same("second is none", x.door(0, 4), CordDoors.NOT_FOUND);
        CHECK.same("slack cords", x.count(3), 18);
        x.open(0);
        CHECK.same("0 holds none", x.count(4), 0);
        CHECK.same("a tight cord to a shut door", x.cord(0, true, 5), 10);
        CHECK.same("holds it", x.open(5), 2);
        CHECK.same("none again", x.cord(0, true, 10), 10);
        CHECK.same("lets it go", x.open(5), 10);
    }

    private static void cordRefuses() {
        CordDoors x = new CordDoors();
        x.open(0);
        x.open(5);
        CHECK.same("both open, first", x.cord(0, false, 5), 4);
        CHECK.same("both open, second", x.cord(0, true, 5), 4);
        CHECK.same("the cord stays", x.door(0, 3), 1);
        CHECK.same("the second cord stays", x.door(0, 4), 3);
        CHECK.same("refused ones", x.count(11), 2);
        CHECK.same("history", x.count(14), 4);
        CHECK.same("an open door may lose a cord", x.cord(0, false, 10), 10);
        CHECK.same("a shut door's cord to an open one", x.cord(1, false, 5), 10);
        CHECK.same("both stay open", x.count(0), 33);
        CHECK.same("opening it shuts the other", x.open(1), 11);
        CHECK.same("0 and 1 are open", x.count(0), 3);
    }

    private static void cordWrong() {
        CordDoors x = new CordDoors();
        x.open(0);
        x.open(5);
        String before = Setup.look(x);
        for (int door : Setup.OUT_OF_DOORS) {
            CHECK.same("cord(" + door + ", ..)", x.cord(door, false, 4), CordDoors.INVALID_ARGUMENT);
            CHECK.same("cord(" + door + ", ..)", x.cord(door, true, 10), CordDoors.INVALID_ARGUMENT);
            if (door != 10) {
                CHECK.same("cord(.., " + door + ")", x.cord(4, false, door), CordDoors.INVALID_ARGUMENT);
                CHECK.same("cord(.., " + door + ")", x.cord(4, true, door), CordDoors.INVALID_ARGUMENT);
            }
        }
        CHECK.same("to itself", x.cord(4, false, 4), CordDoors.INVALID_ARGUMENT);
        CHECK.same("to itself, open", x.cord(5, true, 5), CordDoors.INVALID_ARGUMENT);
        CHECK.same("first as second", x.cord(4, false, 7), CordDoors.INVALID_ARGUMENT);
        CHECK.same("second as first", x.cord(4, true, 5), CordDoors.INVALID_ARGUMENT);
        CHECK.holds("nothing changed by wrong cords", before.equals(Setup.look(x)));
        CHECK.same("history", x.count(14), 2);
    }

    private static void join() {
        CordDoors x = new CordDoors();
        CHECK.same("5 joined 0 and 5", x.join(5, 4, 2), 5);
        CHECK.same("lesser", x.door(5, 1), 2);
        CHECK.same("greater", x.door(5, 2), 4);
        CHECK.same("hall 0 lost it", x.hall(0, 0), 2);
        CHECK.same("hall 5 lost it", x.hall(5, 0), 1);
        CHECK.same("hall 2 got it", x.hall(2, 0), 5);
        CHECK.same("hall 4 got it", x.hall(4, 0), 4);
        CHECK.same("one hall stays", x.join(5, 2, 5), 24);
        CHECK.same("hall 2 has it", x.hall(2, 0), 5);
        CHECK.same("the same again", x.join(5, 5, 2), 25);
        CHECK.same("is a change", x.count(14), 3);
        CHECK.same("hall 2 has it once", x.hall(2, 0), 5);
        CHECK.same("9 joined 3 and 4", x.join(9, 5, 0), 34);
        CHECK.same("9 joined 0 and 5", x.join(9, 0, 1), 5);
    }

    private static void joinWrong() {
        CordDoors x = new CordDoors();
        x.open(0);
        String before = Setup.look(x);
        for (int door : Setup.OUT_OF_DOORS) {
            CHECK.same("join(" + door + ", ..)", x.join(door, 1, 2), CordDoors.INVALID_ARGUMENT);
        }
        for (int hall : Setup.OUT_OF_HALLS) {
            CHECK.same("join(1, " + hall + ", 2)", x.join(1, hall, 2), CordDoors.INVALID_ARGUMENT);
            CHECK.same("join(1, 2, " + hall + ")", x.join(1, 2, hall), CordDoors.INVALID_ARGUMENT);
            CHECK.same("join(0, 2, " + hall + ")", x.join(0, 2, hall), CordDoors.INVALID_ARGUMENT);
        }
        for (int hall = 0; hall < 6; hall++) {
            CHECK.same("one hall twice", x.join(1, hall, hall), CordDoors.INVALID_ARGUMENT);
            CHECK.same("one hall twice, open", x.join(0, hall, hall), CordDoors.INVALID_ARGUMENT);
        }
        CHECK.same("an open door", x.join(0, 2, 3), CordDoors.NOT_POSSIBLE);
        CHECK.same("an open door, the same halls", x.join(0, 0, 1), CordDoors.NOT_POSSIBLE);
        CHECK.holds("nothing changed by wrong joins", before.equals(Setup.look(x)));
        CHECK.same("history", x.count(14), 1);
        CHECK.same("a held door can be joined", x.join(1, 4, 5), 12);
        x.shut(0);
        CHECK.same("shut, it can be", x.join(0, 2, 3), 1);
    }

    private static void keys() {
        CordDoors x = new CordDoors();
        CHECK.same("keys(0, 1023)", x.keys(0, 1023), 0);
        CHECK.same("keys(0, 5)", x.keys(0, 5), 1023);
        CHECK.same("in place of those before", x.guest(0, 1), 5);
        CHECK.same("keys(2, 512)", x.keys(2, 512), 0);
        CHECK.same("keys(0, 0)", x.keys(0, 0), 5);
        CHECK.same("guest 1 has none", x.guest(1, 1), 0);
        CHECK.same("guest 2 has 9", x.guest(2, 1), 512);
        CHECK.same("history", x.count(14), 4);
    }

    private static void keysWrong() {
        CordDoors x = new CordDoors();
        x.keys(1, 7);
        for (int guest : Setup.OUT_OF_GUESTS) {
            CHECK.same("keys(" + guest + ", 1)", x.keys(guest, 1), CordDoors.INVALID_ARGUMENT);
        }
        for (int set : Setup.OUT_OF_SETS) {
            CHECK.same("keys(1, " + set + ")", x.keys(1, set), CordDoors.INVALID_ARGUMENT);
        }
        CHECK.same("nothing changed", x.guest(1, 1), 7);
        CHECK.same("history", x.count(14), 1);
    }

    private static void draft() {
        CordDoors x = new CordDoors();
        CHECK.same("draft(10)", x.draft(10), 3);
        CHECK.same("draft(1)", x.draft(1), 10);
        CHECK.same("draft(1) again", x.draft(1), 1);
        CHECK.same("count(12)", x.count(12), 1);
        CHECK.same("history", x.count(14), 3);
        CHECK.same("draft(4)", x.draft(4), 1);
    }

    private static void draftWrong() {
        CordDoors x = new CordDoors();
        for (int draft : new int[] {0, -1, 11, 12, Integer.MIN_VALUE, Integer.MAX_VALUE}) {
            CHECK.same("draft(" + draft + ")", x.draft(draft), CordDoors.INVALID_ARGUMENT);
        }
        CHECK.same("nothing changed", x.count(12), 3);
        CHECK.same("history", x.count(14), 0);
    }
}
