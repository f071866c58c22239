/** Promises 16 to 25: door, hall, guest, whyNot, together, can, deeds, count, tightness, ifOpened. */
public final class LooksTest {
    private static final Check CHECK = new Check();

    public static void main(String[] args) {
        door();
        doorWrong();
        hall();
        hallWrong();
        guest();
        guestWrong();
        whyNot();
        together();
        can();
        deeds();
        deedsWithDrafts();
        deedsWithAllOpen();
        deedsBackwards();
        deedsWrong();
        count();
        countWrong();
        tightness();
        ifOpened();
        looksChangeNothing();
        CHECK.end("LooksTest");
    }

    private static void door() {
        CordDoors x = new CordDoors();
        x.open(3);
        x.open(5);
        x.shut(5);
        x.open(5);
        x.open(0);
        door(x, 0, 1, 0, 1, 1, 3, 0, 2, 0, 1, 0);
        door(x, 3, 0, 3, 4, 4, 6, 1, 2, 1, 1, 1);
        door(x, 5, 1, 0, 5, 6, 8, 0, 2, 0, 2, 1);
        door(x, 6, 0, 0, 1, 7, 9, 1, 2, 1, 0, 0);
        door(x, 9, 0, 3, 4, 0, 2, 0, 2, 0, 0, 0);
        x.cord(9, true, 6);
        x.cord(0, true, 6);
        x.cord(0, false, 10);
        door(x, 6, 0, 0, 1, 7, 9, 1, 4, 2, 0, 0);
        door(x, 0, 1, 0, 1, CordDoors.NOT_FOUND, 6, 0, 2, 0, 1, 0);
        door(x, 1, 0, 1, 2, 2, 4, 0, 1, 0, 0, 0);
        x.cord(0, true, 10);
        door(x, 0, 1, 0, 1, CordDoors.NOT_FOUND, CordDoors.NOT_FOUND, 0, 2, 0, 1, 0);
        door(x, 2, 0, 2, 3, 3, 5, 0, 1, 0, 0, 0);
    }

    private static void door(CordDoors x, int door, int... due) {
        for (int what = 0; what < due.length; what++) {
            CHECK.same("door(" + door + ", " + what + ")", x.door(door, what), due[what]);
        }
    }

    private static void doorWrong() {
        CordDoors x = new CordDoors();
        for (int door : Setup.OUT_OF_DOORS) {
            CHECK.same("door(" + door + ", 0)", x.door(door, 0), CordDoors.INVALID_ARGUMENT);
            CHECK.same("door(" + door + ", 3)", x.door(door, 3), CordDoors.INVALID_ARGUMENT);
        }
        for (int what : new int[] {-1, 10, Integer.MIN_VALUE, Integer.MAX_VALUE}) {
            CHECK.same("door(0, " + what + ")", x.door(0, what), CordDoors.INVALID_ARGUMENT);
        }
    }

    private static void hall() {
        CordDoors x = new CordDoors();
        x.open(0);
        x.open(5);
        x.open(2);
        hall(x, 0, 3, 1, 3, 2);
        hall(x, 1, 4, 1, 0, 2);
        hall(x, 2, 4, 1, 0, 2);
        hall(x, 3, 4, 1, 0, 2);
        hall(x, 4, 3, 0, 0, 1);
        hall(x, 5, 2, 0, 0, 1);
        x.walk(2, 0);
        hall(x, 0, 3, 1, 2, 2);
        hall(x, 1, 4, 1, 1, 2);
        CHECK.same("pairs of halls", x.count(5), 2);
        x = Setup.withoutCords();
        x.draft(10);
        // 4 ahead of the others: a chain of halls that is found in no order of doors.
        x.open(4);
        x.open(3);
        x.open(2);
        x.open(1);
        x.open(0);
        for (int hall = 0; hall < 6; hall++) {
            CHECK.same("all halls hang together", x.hall(hall, 3), 6);
        }
        CHECK.same("all pairs", x.count(5), 15);
        x.shut(2);
        CHECK.same("0, 1, 2", x.hall(0, 3), 3);
        CHECK.same("3, 4, 5", x.hall(5, 3), 3);
        CHECK.same("three and three pairs", x.count(5), 6);
        x.open(8);
        x.open(2);
        x.shut(2);
        CHECK.same("8 is beside 2", x.hall(0, 3), 6);
        x.open(5);
        x.shut(0);
        CHECK.same("around", x.hall(1, 3), 6);
    }

    private static void hall(CordDoors x, int hall, int... due) {
        for (int what = 0; what < due.length; what++) {
            CHECK.same("hall(" + hall + ", " + what + ")", x.hall(hall, what), due[what]);
        }
    }

    private static void hallWrong() {
        CordDoors x = new CordDoors();
        for (int hall : Setup.OUT_OF_HALLS) {
            for (int what = 0; what <= 3; what++) {
                CHECK.same("hall(" + hall + ", " + what + ")", x.hall(hall, what), CordDoors.INVALID_ARGUMENT);
            }
        }
        for (int what : new int[] {-1, 4, Integer.MIN_VALUE, Integer.MAX_VALUE}) {
            CHECK.same("hall(0, " + what + ")", x.hall(0, what), CordDoors.INVALID_ARGUMENT);
        }
    }

    private static void guest() {
        CordDoors x = new CordDoors();
        x.keys(0, 1023);
        x.keys(1, 1 + 2 + 64);
        CHECK.same("three doors in hall 0", x.guest(0, 2), 3);
        CHECK.same("two with keys", x.guest(1, 2), 2);
        CHECK.same("no keys", x.guest(2, 2), 0);
        CHECK.same("the keys", x.guest(1, 1), 67);
        x.open(5);
        CHECK.same("5 is open, 6 is held", x.guest(0, 2), 1);
        CHECK.same("6 is held", x.guest(1, 2), 1);
        x.walk(0, 5);
        CHECK.same("the hall", x.guest(0, 0), 5);
        CHECK.same("door 4 in hall 5", x.guest(0, 2), 1);
        CHECK.same("a walk", x.guest(0, 3), 1);
        x.walk(0, 0);
        CHECK.same("refused, no walk", x.guest(0, 3), 1);
    }

    private static void guestWrong() {
        CordDoors x = new CordDoors();
        for (int guest : Setup.OUT_OF_GUESTS) {
            for (int what = 0; what <= 3; what++) {
                CHECK.same("guest(" + guest + ", " + what + ")", x.guest(guest, what), CordDoors.INVALID_ARGUMENT);
            }
        }
        for (int what : new int[] {-1, 4, Integer.MIN_VALUE, Integer.MAX_VALUE}) {
            CHECK.same("guest(0, " + what + ")", x.guest(0, what), CordDoors.INVALID_ARGUMENT);
        }
    }

    private static void whyNot() {
        CordDoors x = new CordDoors();
        x.open(4);
        for (int door = 0; door < 10; door++) {
            int due = door == 4 ? 1 : door == 5 || door == 7 ? 2 : 0;
            CHECK.same("whyNot(" + door + ")", x.whyNot(door), due);
        }
        for (int door : Setup.OUT_OF_DOORS) {
            CHECK.same("whyNot(" + door + ")", x.whyNot(door), CordDoors.INVALID_ARGUMENT);
        }
        CHECK.same("no refusal", x.count(11), 0);
    }

    private static void together() {
        CordDoors x = new CordDoors();
        bothTogether("at first", x, 5);
        for (int draft = 1; draft <= 10; draft++) {
            x.draft(draft);
            bothTogether("with DRAFT " + draft, x, draft == 1 ? 3 : 5);
        }
        x.open(0);
        x.open(2);
        bothTogether("what is open is of no account", x, 5);
        x = Setup.withoutCords();
        int[] dues = {3, 6, 8, 10, 10, 10, 10, 10, 10, 10};
        for (int draft = 1; draft <= 10; draft++) {
            x.draft(draft);
            bothTogether("without cords, DRAFT " + draft, x, dues[draft - 1]);
        }
        for (int door = 1; door < 10; door++) {
            x.cord(0, false, door);
            bothTogether("a cord between two", x, 9);
        }
        x.cord(0, false, 10);
        x.cord(3, false, 7);
        bothTogether("one cord", x, 9);
        x.cord(7, true, 3);
        bothTogether("two cords between the same", x, 9);
        for (int way : new int[] {-1, 2, Integer.MIN_VALUE, Integer.MAX_VALUE}) {
            CHECK.same("together(" + way + ")", x.together(way), CordDoors.INVALID_ARGUMENT);
        }
    }

    private static void bothTogether(String when, CordDoors x, int due) {
        CHECK.same(when + ": together(0)", x.together(0), due);
        CHECK.same(when + ": together(1)", x.together(1), due);
    }

    private static void can() {
        CordDoors x = new CordDoors();
        CHECK.same("none", x.can(0), 1);
        for (int door = 0; door < 10; door++) {
            CHECK.same("one alone", x.can(1 << door), 1);
            CHECK.same("its first cord", x.can(1 << door | 1 << (door + 1) % 10), 0);
            CHECK.same("its second cord", x.can(1 << door | 1 << (door + 3) % 10), 0);
            CHECK.same("no cord", x.can(1 << door | 1 << (door + 2) % 10), 1);
        }
        CHECK.same("all", x.can(1023), 0);
        CHECK.same("the even ones", x.can(341), 1);
        x.draft(1);
        CHECK.same("the even ones, two in hall 0", x.can(341), 0);
        CHECK.same("0, 2, 4 are in six halls", x.can(21), 1);
        CHECK.same("DRAFT 1 allows one", x.can(1), 1);
        x = Setup.withoutCords();
        CHECK.same("three in hall 0", x.can(1 + 32 + 64), 1);
        CHECK.same("four in hall 1", x.can(1 + 2 + 64 + 128), 0);
        x.draft(2);
        CHECK.same("three in hall 0 alone with DRAFT 2", x.can(1 + 32 + 64), 0);
        CHECK.same("two in halls 4 and 5", x.can(8 + 16 + 32), 1);
        x.join(9, 4, 5);
        CHECK.same("three in hall 5 alone with DRAFT 2", x.can(16 + 32 + 512), 0);
        x.join(9, 3, 4);
        x.draft(4);
        CHECK.same("four in hall 1 with DRAFT 4", x.can(1 + 2 + 64 + 128), 1);
        CHECK.same("all with DRAFT 4", x.can(1023), 1);
        for (int set : Setup.OUT_OF_SETS) {
            CHECK.same("can(" + set + ")", x.can(set), CordDoors.INVALID_ARGUMENT);
        }
    }

    private static void deeds() {
        CordDoors x = new CordDoors();
        bothDeeds("is there", x, 0, 0, 0);
        bothDeeds("no keys", x, 0, 1, CordDoors.NOT_FOUND);
        x.open(0);
        bothDeeds("through an open one", x, 0, 1, 1);
        bothDeeds("no further", x, 0, 2, CordDoors.NOT_FOUND);
        x.keys(0, 2);
        // Walk through 0, which holds 1: shut 0, open 1, walk.
        bothDeeds("past a held one", x, 0, 2, 4);
        bothDeeds("another has no keys", x, 1, 2, CordDoors.NOT_FOUND);
        bothDeeds("another walks as well", x, 1, 1, 1);
        x.shut(0);
        x.keys(0, 1);
        bothDeeds("open and walk", x, 0, 1, 2);
        x.cord(7, true, 10);
        x.open(7);
        x.open(5);
        bothDeeds("and walk on", x, 0, 2, 3);
        bothDeeds("the other way", x, 0, 5, 1);
        CHECK.same("no doors moved", x.count(0), 128 + 32);
        CHECK.same("the guest stays", x.guest(0, 0), 0);
    }

    private static void deedsWithDrafts() {
        CordDoors x = Setup.withoutCords();
        x.keys(0, 1);
        x.draft(10);
        x.open(6);
        x.open(7);
        x.open(2);
        x.draft(1);
        bothDeeds("open ones may be more than DRAFT", x, 0, 3, 3);
        x.shut(6);
        // Opening 0 would slam 7 in hall 1; a walk needs it.
        bothDeeds("a draft slams the way", x, 0, 2, CordDoors.NOT_FOUND);
        x.draft(10);
        bothDeeds("without drafts", x, 0, 2, 3);
        x.draft(1);
        x.keys(0, 1 + 128);
        bothDeeds("with the key of what slammed", x, 0, 2, 4);
        x = Setup.withoutCords();
        x.keys(1, 31);
        bothDeeds("round the halls", x, 1, 5, 10);
        x.keys(1, 1023);
        bothDeeds("the short way", x, 1, 5, 2);
        bothDeeds("half around", x, 1, 3, 6);
    }

    private static void deedsWithAllOpen() {
        CordDoors x = Setup.withoutCords();
        x.draft(10);
        for (int door = 0; door < 10; door++) {
            x.open(door);
        }
        int[] due = {0, 1, 2, 3, 2, 1};
        for (int hall = 0; hall < 6; hall++) {
            bothDeeds("all are open", x, 0, hall, due[hall]);
        }
        x.walk(1, 5);
        for (int hall = 0; hall < 6; hall++) {
            bothDeeds("all are open, from 5", x, 1, hall, due[(hall + 1) % 6]);
        }
    }

    private static void deedsBackwards() {
        CordDoors x = Setup.withoutCords();
        x.open(5);
        x.open(4);
        x.walk(0, 5);
        x.walk(0, 4);
        x.keys(0, 8 + 4 + 2);
        x.shut(5);
        int[] due = {CordDoors.NOT_FOUND, 6, 4, 2, 0, 1};
        for (int hall = 0; hall < 6; hall++) {
            bothDeeds("from 4", x, 0, hall, due[hall]);
        }
        x.open(7);
        x.open(1);
        bothDeeds("through what is open", x, 0, 1, 5);
        x.keys(0, 0);
        x.open(3);
        x.open(8);
        bothDeeds("walks alone, to lesser halls", x, 0, 1, 3);
    }

    private static void bothDeeds(String when, CordDoors x, int guest, int hall, int due) {
        String call = when + ": deeds(" + guest + ", " + hall + ", ";
        CHECK.same(call + "0)", x.deeds(guest, hall, 0), due);
        CHECK.same(call + "1)", x.deeds(guest, hall, 1), due);
    }

    private static void deedsWrong() {
        CordDoors x = new CordDoors();
        for (int guest : Setup.OUT_OF_GUESTS) {
            CHECK.same("deeds(" + guest + ", 0, 0)", x.deeds(guest, 0, 0), CordDoors.INVALID_ARGUMENT);
            CHECK.same("deeds(" + guest + ", 0, 1)", x.deeds(guest, 0, 1), CordDoors.INVALID_ARGUMENT);
        }
        for (int hall : Setup.OUT_OF_HALLS) {
            CHECK.same("deeds(0, " + hall + ", 0)", x.deeds(0, hall, 0), CordDoors.INVALID_ARGUMENT);
            CHECK.same("deeds(0, " + hall + ", 1)", x.deeds(0, hall, 1), CordDoors.INVALID_ARGUMENT);
        }
        for (int way : new int[] {-1, 2, Integer.MIN_VALUE, Integer.MAX_VALUE}) {
            CHECK.same("deeds(0, 0, " + way + ")", x.deeds(0, 0, way), CordDoors.INVALID_ARGUMENT);
            CHECK.same("deeds(0, 1, " + way + ")", x.deeds(0, 1, way), CordDoors.INVALID_ARGUMENT);
        }
    }

    private static void count() {
        CordDoors x = new CordDoors();
        x.open(0);
        x.open(2);
        x.cord(4, false, 10);
        x.draft(1);
        x.open(6);
        x.keys(0, 1023);
        x.shut(6);
        x.guestOpens(0, 6);
        x.guestShuts(0, 6);
        x.shut(6);
        x.append('o');
        // 6 shut 0 by a draft; 2 is open, its cords go to 3 and 5.
        int[] due = {4, 1, 2, 17, 2, 1, 0, 4, 2, 0, 1, 1, 1, 1, 4};
        for (int what = 0; what < due.length; what++) {
            CHECK.same("count(" + what + ")", x.count(what), due[what]);
        }
        x.open(9);
        CHECK.same("by cords", x.count(9), 1);
        x.cord(1, false, 8);
        CHECK.same("8 and 1", x.count(6), 1);
        x.cord(1, false, 7);
        CHECK.same("7 does not go to 1", x.count(6), 0);
        x.cord(7, false, 1);
        CHECK.same("7 and 1", x.count(6), 1);
        x.cord(3, true, 9);
        x.cord(9, true, 3);
        CHECK.same("9 and 3, too", x.count(6), 2);
        CordDoors neighbours = new CordDoors();
        neighbours.cord(1, false, 0);
        CHECK.same("0 and 1", neighbours.count(6), 1);
        neighbours.cord(9, true, 8);
        CHECK.same("8 and 9", neighbours.count(6), 2);
        neighbours.cord(0, true, 9);
        CHECK.same("9 and 0", neighbours.count(6), 3);
        neighbours.open(0);
        CHECK.same("open or shut", neighbours.count(6), 3);
        x.cord(0, false, 4);
        x.open(3);
        CHECK.same("9 holds 3", x.count(11), 2);
        x.open(6);
        CHECK.same("6 shuts 9, and holds 9 and 7", x.count(4), 2);
        x.open(8);
        CHECK.same("one door held twice is one held door", x.count(4), 3);
    }

    private static void countWrong() {
        CordDoors x = new CordDoors();
        for (int what : new int[] {-1, 15, 16, Integer.MIN_VALUE, Integer.MAX_VALUE}) {
            CHECK.same("count(" + what + ")", x.count(what), CordDoors.INVALID_ARGUMENT);
        }
    }

    private static void tightness() {
        CordDoors x = new CordDoors();
        CHECK.sameDouble("none tight", x.tightness(), 0.0);
        x.open(0);
        CHECK.sameDouble("2 of 20", x.tightness(), 2.0 / 20.0);
        x.cord(0, true, 10);
        CHECK.sameDouble("1 of 19", x.tightness(), 1.0 / 19.0);
        x.open(2);
        CHECK.sameDouble("3 of 19", x.tightness(), 3.0 / 19.0);
        x = Setup.withoutCords();
        CHECK.sameDouble("no cords", x.tightness(), 0.0);
        x.open(3);
        CHECK.sameDouble("no cords, an open door", x.tightness(), 0.0);
        x.cord(3, true, 4);
        CHECK.sameDouble("the only one", x.tightness(), 1.0);
    }

    private static void ifOpened() {
        CordDoors x = new CordDoors();
        x.open(2);
        x.open(4);
        would(x, 1, 2, 2, 0);
        would(x, 0, 1 + 4 + 16, 0, 0);
        would(x, 2, 4 + 16, 0, 0);
        would(x, 3, 4 + 16, 0, 0);
        x.draft(1);
        would(x, 8, 4 + 16 + 256 - 4, 0, 1);
        would(x, 2, 4 + 16, 0, 0);
        would(x, 5, 4 + 16, 0, 0);
        x.cord(9, true, 4);
        x.join(9, 2, 5);
        would(x, 9, 512, 1, 1);
        CHECK.same("and so it is", x.open(9), 12);
        CHECK.same("as told", x.count(0), 512);
        CHECK.same("by cords as told", x.count(9), 1);
        CHECK.same("by drafts as told", x.count(10), 1);
        for (int door : Setup.OUT_OF_DOORS) {
            for (int what = 0; what <= 2; what++) {
                CHECK.same("ifOpened(" + door + ", " + what + ")", x.ifOpened(door, what), CordDoors.INVALID_ARGUMENT);
            }
        }
        for (int what : new int[] {-1, 3, Integer.MIN_VALUE, Integer.MAX_VALUE}) {
            CHECK.same("ifOpened(0, " + what + ")", x.ifOpened(0, what), CordDoors.INVALID_ARGUMENT);
            CHECK.same("ifOpened(9, " + what + ")", x.ifOpened(9, what), CordDoors.INVALID_ARGUMENT);
        }
    }

    private static void would(CordDoors x, int door, int... due) {
        for (int what = 0; what < due.length; what++) {
            CHECK.same("ifOpened(" + door + ", " + what + ")", x.ifOpened(door, what), due[what]);
        }
    }

    private static void looksChangeNothing() {
        CordDoors x = new CordDoors();
        x.keys(0, 1023);
        x.open(3);
        x.open(5);
        Setup.append(x, "o1;");
        String before = Setup.look(x);
        for (int door = 0; door < 10; door++) {
            x.ifOpened(door, door % 3);
            x.whyNot(door);
            x.can(door * 100);
        }
        for (int hall = 0; hall < 6; hall++) {
            x.deeds(0, hall, hall % 2);
        }
        x.together(0);
        x.together(1);
        x.tightness();
        x.fault();
        CHECK.holds("looks change nothing", before.equals(Setup.look(x)));
        CHECK.same("no changes", x.count(14), 3);
        CHECK.same("the pad stays", x.count(13), 3);
    }
}
