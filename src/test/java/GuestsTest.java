/** Promises 8 to 10: guestOpens, guestShuts, walk. */
public final class GuestsTest {
    private static final Check CHECK = new Check();

    public static void main(String[] args) {
        opens();
        opensLikeAServant();
        shuts();
        walks();
        wrong();
        CHECK.end("GuestsTest");
    }

    private static void opens() {
        CordDoors x = new CordDoors();
        CHECK.same("no key, in the hall", x.guestOpens(1, 0), 6);
        CHECK.same("no key, not in the hall: 5 is ahead", x.guestOpens(1, 1), 5);
        x.keys(1, 2 + 32);
        CHECK.same("a key, not in the hall", x.guestOpens(1, 1), 5);
        CHECK.same("a key of another door", x.guestOpens(1, 0), 6);
        CHECK.same("another's keys do not help", x.guestOpens(0, 5), 6);
        CHECK.same("opens", x.guestOpens(1, 5), 10);
        CHECK.same("is open", x.count(0), 32);
        CHECK.same("open already", x.guestOpens(1, 5), 1);
        CHECK.same("no key is ahead of open", x.guestOpens(0, 5), 6);
        CHECK.same("no key is ahead of held", x.guestOpens(1, 6), 6);
        x.keys(1, 1023);
        CHECK.same("held", x.guestOpens(1, 6), 2);
        CHECK.same("not in the hall is ahead of held", x.guestOpens(1, 8), 5);
        CHECK.same("refused ones", x.count(11), 10);
        CHECK.same("opened ones", x.count(7), 1);
        CHECK.same("openings of 5", x.door(5, 8), 1);
    }

    private static void opensLikeAServant() {
        CordDoors x = new CordDoors();
        x.keys(2, 1);
        x.open(3);
        CHECK.same("a guest's door shuts by cords", x.guestOpens(2, 0), 11);
        CHECK.same("by cords", x.count(9), 1);
        x = Setup.withoutCords();
        x.keys(2, 1);
        x.draft(1);
        x.open(5);
        CHECK.same("a guest's door shuts by drafts", x.guestOpens(2, 0), 11);
        CHECK.same("by drafts", x.count(10), 1);
        CHECK.same("0 is open", x.count(0), 1);
        CHECK.same("history", x.count(14), 4);
    }

    private static void shuts() {
        CordDoors x = new CordDoors();
        CHECK.same("shut, not in the hall: 5 is ahead", x.guestShuts(0, 2), 5);
        CHECK.same("shut", x.guestShuts(0, 0), 3);
        x.open(2);
        CHECK.same("open, not in the hall", x.guestShuts(0, 2), 5);
        x.open(0);
        CHECK.same("no key is wanted", x.guestShuts(0, 0), 10);
        CHECK.same("0 is shut", x.count(0), 4);
        CHECK.same("by hand", x.count(8), 1);
        CHECK.same("shut so far", x.door(0, 9), 1);
        CHECK.same("refused ones", x.count(11), 3);
        CHECK.same("again", x.guestShuts(0, 0), 3);
    }

    private static void walks() {
        CordDoors x = new CordDoors();
        CHECK.same("shut", x.walk(1, 5), 3);
        CHECK.same("not in the hall is ahead of shut", x.walk(1, 4), 5);
        x.open(5);
        x.open(7);
        CHECK.same("from 0 to 5", x.walk(1, 5), 15);
        CHECK.same("is in 5", x.guest(1, 0), 5);
        CHECK.same("others stay", x.guest(0, 0), 0);
        CHECK.same("walks", x.guest(1, 3), 1);
        CHECK.same("open, not in the hall", x.walk(1, 7), 5);
        CHECK.same("back to 0", x.walk(1, 5), 10);
        CHECK.same("walks then", x.guest(1, 3), 2);
        CHECK.same("others' walks", x.guest(2, 3), 0);
        CHECK.same("refused ones", x.count(11), 3);
        CHECK.same("history", x.count(14), 4);
        CHECK.same("guests in 0", x.hall(0, 2), 3);
    }

    private static void wrong() {
        CordDoors x = new CordDoors();
        x.keys(0, 1023);
        x.open(0);
        String before = Setup.look(x);
        for (int guest : Setup.OUT_OF_GUESTS) {
            CHECK.same("guestOpens(" + guest + ", 0)", x.guestOpens(guest, 0), CordDoors.INVALID_ARGUMENT);
            CHECK.same("guestShuts(" + guest + ", 0)", x.guestShuts(guest, 0), CordDoors.INVALID_ARGUMENT);
            CHECK.same("walk(" + guest + ", 0)", x.walk(guest, 0), CordDoors.INVALID_ARGUMENT);
        }
        for (int door : Setup.OUT_OF_DOORS) {
            CHECK.same("guestOpens(0, " + door + ")", x.guestOpens(0, door), CordDoors.INVALID_ARGUMENT);
            CHECK.same("guestShuts(0, " + door + ")", x.guestShuts(0, door), CordDoors.INVALID_ARGUMENT);
            CHECK.same("walk(0, " + door + ")", x.walk(0, door), CordDoors.INVALID_ARGUMENT);
        }
        CHECK.holds("nothing changed by wrong deeds of guests", before.equals(Setup.look(x)));
        CHECK.same("history", x.count(14), 2);
    }
}
