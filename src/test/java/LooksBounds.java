/** The boundary cases that the promises 16 to 25 name. */
final class LooksBounds extends Bounds {
    LooksBounds(Check check, Document document) {
        super(check, document);
    }

    void all() {
        door();
        hall();
        guest();
        whyNot();
        together();
        can();
        deeds();
        count();
        tightness();
        ifOpened();
    }

    // ---- Promise 16

    private void door() {
        section("Promise 16: door");
        plain("`int door(int door, int what)`: Returns a property of a door.");
        sentence("`door`: 0 to 9");
        range("door", 0, 9, (x, door) -> x.door(door, 0));
        range("door's cord", 0, 9, (x, door) -> x.door(door, 4));
        openOrNot();
        lesserAndGreater();
        whereCordsGo();
        heldOrNot();
        cordsToADoor();
        tightCordsToADoor();
        openings();
        shuttings();
        sentence("Returns the number; INVALID_ARGUMENT.");
        range("door(0, ..)", 0, 9, (x, what) -> x.door(0, what));
        error("neither of both", INVALID, x -> x.door(10, 10));
    }

    private void openOrNot() {
        sentence("`what`: 0: 1 if it is open, otherwise 0;");
        CordDoors x = new CordDoors();
        same("never opened", x.door(9, 0), 0);
        x.open(9);
        same("open", x.door(9, 0), 1);
        same("held", x.door(0, 0), 0);
        x.open(8);
        same("shut by a cord", x.door(9, 0), 0);
    }

    private void lesserAndGreater() {
        sentence("1: the lesser one of its halls; 2: the greater one;");
        CordDoors x = new CordDoors();
        same("5 and 0: lesser", x.door(5, 1), 0);
        same("5 and 0: greater", x.door(5, 2), 5);
        x.join(5, 5, 4);
        same("5 and 4: lesser", x.door(5, 1), 4);
        same("5 and 4: greater", x.door(5, 2), 5);
        x.join(5, 0, 1);
        same("0 and 1: lesser", x.door(5, 1), 0);
        same("0 and 1: greater", x.door(5, 2), 1);
    }

    private void whereCordsGo() {
        sentence("3: the door to which its first cord goes, 4: the second one, NOT_FOUND for none;");
        CordDoors x = new CordDoors();
        same("9, first: to the least door", x.door(9, 3), 0);
        same("8, first: to the greatest one", x.door(8, 3), 9);
        same("7, second: to the least door", x.door(7, 4), 0);
        same("6, second: to the greatest one", x.door(6, 4), 9);
        x.cord(9, false, NO_DOOR);
        same("first, none", x.door(9, 3), NONE);
        same("second stays", x.door(9, 4), 2);
        x.cord(9, true, NO_DOOR);
        same("second, none", x.door(9, 4), NONE);
    }

    private void heldOrNot() {
        sentence("5: 1 if it is held, otherwise 0;");
        CordDoors x = new CordDoors();
        same("slack cords", x.door(0, 5), 0);
        x.open(7);
        same("by one tight cord", x.door(0, 5), 1);
        x.open(9);
        same("by two", x.door(0, 5), 1);
        x.shut(7);
        same("by one again", x.door(0, 5), 1);
        x.shut(9);
        same("by none", x.door(0, 5), 0);
    }

    private void cordsToADoor() {
        sentence("6: how many cords go to it;");
        CordDoors x = Setup.withoutCords();
        same("none", x.door(4, 6), 0);
        for (int door = 0; door < 10; door++) {
            if (door != 4) {
                x.cord(door, door % 2 == 0, 4);
            }
        }
        same("all nine", x.door(4, 6), 9);
        same("none of them is tight", x.door(4, 7), 0);
        same("none goes back", x.door(0, 6), 0);
    }

    private void tightCordsToADoor() {
        sentence("7: how many tight cords go to it;");
        CordDoors x = allBetweenTwoHalls();
        same("none", x.door(9, 7), 0);
        for (int door = 0; door < 9; door++) {
            x.cord(door, door % 2 == 0, 9);
            x.open(door);
            same("as many as are open", x.door(9, 7), door + 1);
        }
        same("and go to it", x.door(9, 6), 9);
        x.shut(0);
        same("one is slack", x.door(9, 7), 8);
        same("it goes to it still", x.door(9, 6), 9);
    }

    private void openings() {
        sentence("8: how often it opened so far;");
        CordDoors x = new CordDoors();
        same("never", x.door(0, 8), 0);
        x.open(0);
        x.open(0);
        same("a refused one is none", x.door(0, 8), 1);
        x.shut(0);
        x.keys(0, 1);
        x.guestOpens(0, 0);
        same("by a guest", x.door(0, 8), 2);
        x.undo();
        same("undone", x.door(0, 8), 1);
        Setup.run(x, "o0;c0;o0");
        same("by a text", x.door(0, 8), 3);
        same("no other one", x.door(1, 8), 0);
    }

    private void shuttings() {
        sentence("9: how often it shut so far");
        CordDoors x = new CordDoors();
        x.shut(1);
        same("a refused one is none", x.door(1, 9), 0);
        x.open(1);
        x.shut(1);
        same("by a servant", x.door(1, 9), 1);
        x.open(1);
        x.open(0);
        same("by a cord", x.door(1, 9), 2);
        x.draft(1);
        x.open(5);
        same("by a draft", x.door(0, 9), 1);
        x.guestShuts(0, 5);
        same("by a guest", x.door(5, 9), 1);
        x.open(0);
        same("a shut door to which a cord goes does not shut", x.door(1, 9), 2);
    }

    // ---- Promise 17

    private void hall() {
        section("Promise 17: hall");
        plain("`int hall(int hall, int what)`: Returns a property of a hall.");
        sentence("`hall`: 0 to 5");
        range("hall", 0, 5, (x, hall) -> x.hall(hall, 0));
        range("halls that hang together", 0, 5, (x, hall) -> x.hall(hall, 3));
        doorsOfAHall();
        openDoorsOfAHall();
        guestsInAHall();
        hallsThatHang();
        sentence("Returns the number; INVALID_ARGUMENT.");
        range("hall(0, ..)", 0, 3, (x, what) -> x.hall(0, what));
        error("neither of both", INVALID, x -> x.hall(6, 4));
    }

    private void doorsOfAHall() {
        sentence("`what`: 0: doors that join it;");
        CordDoors x = allBetweenTwoHalls();
        same("all", x.hall(0, 0), 10);
        same("all of the other one", x.hall(1, 0), 10);
        same("none", x.hall(2, 0), 0);
        same("none of the last one", x.hall(5, 0), 0);
    }

    private void openDoorsOfAHall() {
        sentence("1: open ones of them;");
        CordDoors x = allBetweenTwoHalls();
        same("none", x.hall(0, 1), 0);
        openAll(x);
        same("all", x.hall(0, 1), 10);
        same("all of the other one", x.hall(1, 1), 10);
        same("none elsewhere", x.hall(2, 1), 0);
    }

    private void guestsInAHall() {
        sentence("2: guests in it;");
        CordDoors x = new CordDoors();
        x.open(5);
        for (int guest = 0; guest < 3; guest++) {
            same("left", x.hall(0, 2), 3 - guest);
            same("gone", x.hall(5, 2), guest);
            x.walk(guest, 5);
        }
        same("none", x.hall(0, 2), 0);
        same("all", x.hall(5, 2), 3);
    }

    private void hallsThatHang() {
        sentence("3: how many halls hang together with it, itself, too");
        CordDoors x = Setup.withoutCords();
        same("itself alone", x.hall(5, 3), 1);
        // 5 joins 0 and 5; then 4, 3, 2, 1: a chain that is found from its far end.
        int[] doors = {5, 4, 3, 2, 1};
        for (int open = 0; open < doors.length; open++) {
            x.open(doors[open]);
            same("from 0 on", x.hall(0, 3), open + 2);
            same("to the last one", x.hall(5 - open, 3), open + 2);
        }
        x.shut(3);
        same("0, 5, 4", x.hall(0, 3), 3);
        same("3, 2, 1", x.hall(1, 3), 3);
    }

    // ---- Promise 18

    private void guest() {
        section("Promise 18: guest");
        plain("`int guest(int guest, int what)`: Returns a property of a guest.");
        sentence("`guest`: 0 to 2");
        range("guest", 0, 2, (x, guest) -> x.guest(guest, 0));
        range("guest who could open", 0, 2, (x, guest) -> x.guest(guest, 2));
        sentence("`what`: 0: the hall; 1: the keys, as a set;");
        CordDoors x = new CordDoors();
        same("the least hall", x.guest(2, 0), 0);
        same("no keys", x.guest(2, 1), 0);
        x.open(5);
        x.walk(2, 5);
        x.keys(2, 1023);
        same("the greatest hall", x.guest(2, 0), 5);
        same("all keys", x.guest(2, 1), 1023);
        doorsToOpen();
        walks();
        sentence("Returns the number; INVALID_ARGUMENT.");
        range("guest(0, ..)", 0, 3, (one, what) -> one.guest(0, what));
        error("neither of both", INVALID, one -> one.guest(3, 4));
    }

    private void doorsToOpen() {
        sentence("2: how many doors the guest could open now;");
        CordDoors x = allBetweenTwoHalls();
        same("no keys", x.guest(0, 2), 0);
        x.keys(0, 1023);
        same("all ten", x.guest(0, 2), 10);
        same("another one's keys", x.guest(1, 2), 0);
        x.open(9);
        same("9 is open", x.guest(0, 2), 9);
        x.cord(9, true, 0);
        same("0 is held", x.guest(0, 2), 8);
        x.keys(0, 1022);
        same("no key of one that is held", x.guest(0, 2), 8);
        x.keys(0, 510);
        same("no key of one that is open", x.guest(0, 2), 8);
        x.join(1, 2, 3);
        same("1 is elsewhere", x.guest(0, 2), 7);
        openAll(x);
        same("all open or held or elsewhere", x.guest(0, 2), 0);
        same("none is refused by looking: 0, 9", x.count(11), 2);
    }

    private void walks() {
        sentence("3: how many walks so far");
        CordDoors x = new CordDoors();
        same("none", x.guest(1, 3), 0);
        x.walk(1, 5);
        same("refused", x.guest(1, 3), 0);
        x.open(5);
        x.walk(1, 5);
        same("one", x.guest(1, 3), 1);
        Setup.run(x, "g1w5;g1w5;g0w5");
        same("of a text", x.guest(1, 3), 3);
        same("another one's", x.guest(0, 3), 1);
        x.undo();
        same("undone", x.guest(1, 3), 1);
    }

    // ---- Promise 19

    private void whyNot() {
        section("Promise 19: whyNot");
        plain("`int whyNot(int door)`: Tells why a door could not be opened by a servant.");
        sentence("`door`: 0 to 9");
        range("whyNot", 0, 9, (x, door) -> x.whyNot(door));
        sentence("Returns the reason, 1 or 2; 0 if it could; INVALID_ARGUMENT.");
        CordDoors x = new CordDoors();
        same("it could", x.whyNot(9), 0);
        x.open(9);
        same("open", x.whyNot(9), 1);
        same("held by the first cord", x.whyNot(0), 2);
        same("held by the second cord", x.whyNot(2), 2);
        same("it could, shutting 9", x.whyNot(8), 0);
        same("none is refused by looking", x.count(11), 0);
    }

    // ---- Promise 20

    private void together() {
        section("Promise 20: together");
        plain("`int together(int way)`: Returns the most doors that can be open together.");
        sentence("`way`: 0: told by trying all sets; 1: told door by door, each taken or left, as long as it can be");
        range("together", 0, 1, (x, way) -> x.together(way));
        sentence("Returns how many doors (the same for both); INVALID_ARGUMENT.");
        for (int draft = 1; draft <= 10; draft++) {
            CordDoors x = allBetweenTwoHalls();
            x.draft(draft);
            most("as many as DRAFT", x, draft);
        }
        CordDoors x = allBetweenTwoHalls();
        openAll(x);
        x.draft(1);
        most("one, though all are open", x, 1);
        most("as cords go at first", new CordDoors(), 5);
        most("two fives, each tied to each in it", twoFives(), 2);
        x = allBetweenTwoHalls();
        most("all ten", x, 10);
        x.cord(0, false, 1);
        x.cord(0, true, 2);
        most("all but 0", x, 9);
        x.cord(9, false, 8);
        x.cord(9, true, 7);
        most("all but 0 and 9", x, 8);
    }

    private void most(String when, CordDoors x, int due) {
        same(when + ", all sets", x.together(0), due);
        same(when + ", door by door", x.together(1), due);
    }

    /** Of the doors 0 to 4 every two have a cord between them, of 5 to 9, too. */
    private static CordDoors twoFives() {
        CordDoors x = Setup.withoutCords();
        x.draft(10);
        for (int door = 0; door < 10; door++) {
            int five = door / 5 * 5;
            x.cord(door, false, five + (door + 1) % 5);
            x.cord(door, true, five + (door + 2) % 5);
        }
        return x;
    }

    // ---- Promise 21

    private void can() {
        section("Promise 21: can");
        plain("`int can(int doors)`: Tells whether doors can be open together.");
        sentence("`doors`: 0 to 1023");
        range("can", 0, 1023, (x, doors) -> x.can(doors));
        sentence("Returns 1 if they can, otherwise 0; INVALID_ARGUMENT.");
        CordDoors x = new CordDoors();
        same("none of them", x.can(0), 1);
        same("all of them", x.can(1023), 0);
        same("9 alone", x.can(512), 1);
        same("9 and 2, to which its second cord goes", x.can(512 + 4), 0);
        x = allBetweenTwoHalls();
        same("all of them with DRAFT 10", x.can(1023), 1);
        x.join(0, 0, 2);
        x.join(9, 1, 5);
        x.draft(8);
        same("nine in hall 0, nine in hall 1", x.can(1023), 0);
        same("nine in hall 0 alone", x.can(511), 0);
        same("nine in hall 1 alone", x.can(1022), 0);
        same("eight in each", x.can(510), 1);
        x.join(0, 0, 1);
        x.join(9, 0, 1);
        x.draft(9);
        same("all of them with DRAFT 9", x.can(1023), 0);
        same("nine of them with DRAFT 9", x.can(1022), 1);
        x.cord(9, true, 1);
        same("nine of them with a cord", x.can(1022), 0);
        same("without the one to which it goes", x.can(1021), 1);
        openAll(x);
        same("what is open is of no account", x.can(1021), 1);
        tooManyInTheLastHall(Setup.withoutCords());
    }

    /** Hall 5 is the last one that drafts and sets look at. */
    private void tooManyInTheLastHall(CordDoors x) {
        x.draft(1);
        x.join(7, 4, 5);
        same("two in halls 4 and 5", x.can(16 + 128), 0);
        x.join(7, 2, 5);
        same("two in hall 5 alone", x.can(16 + 128), 0);
        x.join(7, 2, 3);
        same("none has two", x.can(16 + 128), 1);
    }

    // ---- Promise 22

    private void deeds() {
        section("Promise 22: deeds");
        plain("`int deeds(int guest, int hall, int way)`: Returns the fewest deeds by which a guest comes to a hall.");
        sentence("`guest`: 0 to 2");
        range("deeds of guest", 0, 2, (x, guest) -> x.deeds(guest, 1, 0));
        range("deeds back of guest", 0, 2, (x, guest) -> x.deeds(guest, 1, 1));
        sentence("`hall`: 0 to 5");
        range("deeds to hall", 0, 5, (x, hall) -> x.deeds(0, hall, 0));
        range("deeds back from hall", 0, 5, (x, hall) -> x.deeds(0, hall, 1));
        sentence("`way`: 0: told from what is now on; 1: told from that hall back: "
            + "again and again for all that could be, until nothing becomes less");
        range("deeds by way", 0, 1, (x, way) -> x.deeds(0, 1, way));
        range("no deeds by way", 0, 1, (x, way) -> x.deeds(0, 0, way));
        sentence("Returns how many (the same for both); INVALID_ARGUMENT; NOT_FOUND if there is no way.");
        noWay();
        farthestWays();
        waysThatSlam();
    }

    private void fewest(String when, CordDoors x, int guest, int hall, int due) {
        same(when + ", to " + hall + ", from now on", x.deeds(guest, hall, 0), due);
        same(when + ", to " + hall + ", back", x.deeds(guest, hall, 1), due);
    }

    private void noWay() {
        CordDoors x = allBetweenTwoHalls();
        x.keys(0, 1023);
        fewest("none, its own hall", x, 0, 0, 0);
        fewest("all doors lead to 1", x, 0, 1, 2);
        fewest("no door joins it", x, 0, 5, NONE);
        fewest("no keys", x, 1, 1, NONE);
        x.open(9);
        fewest("no keys, an open one", x, 1, 1, 1);
        openAll(x);
        fewest("no keys, all open", x, 1, 1, 1);
        fewest("all open, its own hall", x, 1, 0, 0);
    }

    /** With the keys of 0 to 4 alone each door behind holds the next one, and has to be shut ahead of it. */
    private void farthestWays() {
        CordDoors x = new CordDoors();
        x.keys(0, 1023);
        int[] due = {0, 2, 4, 6, 4, 2};
        for (int hall = 0; hall < 6; hall++) {
            fewest("with all keys", x, 0, hall, due[hall]);
        }
        x.keys(1, 31);
        int[] around = {0, 2, 5, 8, 11, 14};
        for (int hall = 0; hall < 6; hall++) {
            fewest("one way round", x, 1, hall, around[hall]);
        }
        same("nothing is changed", x.count(0), 0);
    }

    /** The guest's own opening slams a door on the way. */
    private void waysThatSlam() {
        CordDoors x = Setup.withoutCords();
        x.join(0, 0, 1);
        x.join(1, 1, 2);
        x.open(1);
        x.draft(1);
        x.keys(0, 1);
        fewest("1 slams", x, 0, 2, NONE);
        x.keys(0, 3);
        fewest("1 slams, and is opened again", x, 0, 2, 4);
        x.draft(2);
        fewest("1 does not slam", x, 0, 2, 3);
        same("nothing is changed", x.count(0), 2);
    }

    // ---- Promise 23

    private void count() {
        section("Promise 23: count");
        plain("`int count(int what)`: Returns a number.");
        openOnes();
        tightSlackHeld();
        pairs();
        accounts();
        others();
        sentence("Returns the number; INVALID_ARGUMENT.");
        range("count", 0, 14, (x, what) -> x.count(what));
    }

    private void openOnes() {
        sentence("`what`: 0: the set of open doors; 1: open doors;");
        CordDoors x = allBetweenTwoHalls();
        same("the empty set", x.count(0), 0);
        same("none", x.count(1), 0);
        openAll(x);
        same("all as a set", x.count(0), 1023);
        same("all", x.count(1), 10);
        x.draft(1);
        x.shut(9);
        x.open(9);
        same("9 as a set", x.count(0), 512);
        same("one", x.count(1), 1);
    }

    private void tightSlackHeld() {
        sentence("2: tight cords; 3: slack ones; 4: held doors;");
        CordDoors x = new CordDoors();
        three("at first", x, 0, 20, 0);
        x.open(0);
        x.open(2);
        three("3 is held by both", x, 4, 16, 3);
        x.cord(0, true, NO_DOOR);
        three("by 2 alone", x, 3, 16, 3);
        x.shut(2);
        three("1 alone is held", x, 1, 18, 1);
        x = allBetweenTwoHalls();
        openAll(x);
        three("no cords", x, 0, 0, 0);
        x.shut(9);
        for (int door = 0; door < 9; door++) {
            x.cord(door, true, 9);
        }
        three("all to one", x, 9, 0, 1);
    }

    private void three(String when, CordDoors x, int tight, int slack, int held) {
        same(when + ", tight", x.count(2), tight);
        same(when + ", slack", x.count(3), slack);
        same(when + ", held", x.count(4), held);
    }

    private void pairs() {
        sentence("5: pairs of halls that hang together; 6: pairs of doors with cords from each to the other;");
        CordDoors x = Setup.withoutCords();
        same("no halls", x.count(5), 0);
        int[] due = {1, 3, 6, 10, 15};
        for (int door = 0; door < 5; door++) {
            x.open(door);
            same("halls in a chain", x.count(5), due[door]);
        }
        same("no doors", x.count(6), 0);
        x = new CordDoors();
        same("no doors at first", x.count(6), 0);
        for (int door = 0; door < 10; door++) {
            x.cord(door, true, (door + 9) % 10);
            // The first cord of the door before it comes from there.
            same("doors up to " + door, x.count(6), door + 1);
        }
    }

    private void accounts() {
        sentence("and so far 7: doors that opened; 8: doors that were shut by a servant or a guest; 9: by cords; "
            + "10: by drafts; 11: refused deeds;");
        CordDoors x = new CordDoors();
        soFar("at first", x, 0, 0, 0, 0, 0);
        x.shut(0);
        soFar("a refused one", x, 0, 0, 0, 0, 1);
        x.open(1);
        x.open(0);
        soFar("one by a cord", x, 2, 0, 1, 0, 1);
        x.shut(0);
        soFar("one by a servant", x, 2, 1, 1, 0, 1);
        x.open(0);
        x.guestShuts(2, 0);
        soFar("one by a guest", x, 3, 2, 1, 0, 1);
        x.draft(1);
        x.open(0);
        x.open(5);
        soFar("one by a draft", x, 5, 2, 1, 1, 1);
        x.walk(0, 0);
        x.guestOpens(0, 0);
        x.cord(5, false, 5);
        soFar("a refused walk and a refused opening, an error is none", x, 5, 2, 1, 1, 3);
        x.open(3);
        x.cord(3, false, 5);
        soFar("a refused cord", x, 6, 2, 1, 1, 4);
        x.undo();
        soFar("undone", x, 6, 2, 1, 1, 3);
    }

    private void soFar(String when, CordDoors x, int... due) {
        for (int what = 7; what <= 11; what++) {
            same(when + ", count(" + what + ")", x.count(what), due[what - 7]);
        }
    }

    private void others() {
        sentence("and 12: DRAFT; 13: the length of the pad; 14: states in the history");
        CordDoors x = new CordDoors();
        same("DRAFT at first", x.count(12), 3);
        same("an empty pad", x.count(13), 0);
        same("no states", x.count(14), 0);
        x.draft(10);
        same("the greatest DRAFT", x.count(12), 10);
        x.draft(1);
        same("the least DRAFT", x.count(12), 1);
        for (int length = 1; length <= 61; length++) {
            x.append('o');
        }
        same("a full pad", x.count(13), 60);
        for (int states = 3; states <= 6; states++) {
            x.open(0);
            same("states", x.count(14), states < 4 ? states : 4);
        }
    }

    // ---- Promise 24

    private void tightness() {
        section("Promise 24: tightness");
        plain("`double tightness()`: Returns how tight the cords are.");
        sentence("Returns the tight cords, as a double, divided by all cords; 0.0 without any.");
        CordDoors x = new CordDoors();
        sameDouble("none tight", x.tightness(), 0.0);
        x.open(0);
        sameDouble("two of twenty", x.tightness(), 0.1);
        x.open(2);
        sameDouble("four of twenty", x.tightness(), 0.2);
        x.cord(1, false, NO_DOOR);
        sameDouble("four of nineteen", x.tightness(), 4.0 / 19.0);
        x = allBetweenTwoHalls();
        sameDouble("without any", x.tightness(), 0.0);
        x.open(4);
        sameDouble("without any, a door is open", x.tightness(), 0.0);
        x.cord(4, true, 5);
        sameDouble("the only one is tight", x.tightness(), 1.0);
        x.cord(6, false, 5);
        x.cord(7, false, 5);
        sameDouble("one of three", x.tightness(), 1.0 / 3.0);
        x.shut(4);
        sameDouble("none of three", x.tightness(), 0.0);
    }

    // ---- Promise 25

    private void ifOpened() {
        section("Promise 25: ifOpened");
        plain("`int ifOpened(int door, int what)`: Tells what opening a door would do, by a servant.");
        sentence("`door`: 0 to 9");
        range("ifOpened", 0, 9, (x, door) -> x.ifOpened(door, 0));
        sentence("`what`: 0: the set of doors that would be open then; 1: how many would be shut by cords; "
            + "2: how many by drafts");
        range("ifOpened(9, ..)", 0, 2, (x, what) -> x.ifOpened(9, what));
        CordDoors x = new CordDoors();
        would("none shut", x, 9, 512, 0, 0);
        x = allBetweenTwoHalls();
        openAll(x);
        would("open", x, 4, 1023, 0, 0);
        x.shut(4);
        x.cord(4, false, 0);
        x.cord(4, true, 9);
        would("two by cords", x, 4, 1023 - 1 - 512, 2, 0);
        x.draft(1);
        would("two by cords, seven by drafts", x, 4, 16, 2, 7);
        same("nothing is changed", x.count(0), 1023 - 16);
        same("as told", x.open(4), 19);
        sentence("Returns the number (if it would be refused: as it is now, 0 and 0); INVALID_ARGUMENT.");
        x = new CordDoors();
        x.open(2);
        x.open(4);
        would("open", x, 2, 20, 0, 0);
        would("held", x, 3, 20, 0, 0);
        x.draft(1);
        x.join(5, 0, 2);
        x.join(6, 2, 4);
        would("open, with more to slam", x, 4, 20, 0, 0);
        same("none is refused by looking", x.count(11), 0);
        error("neither of both", INVALID, one -> one.ifOpened(10, 3));
        error("refused, no such number", INVALID, one -> one.ifOpened(0, 3));
    }

    private void would(String when, CordDoors x, int door, int... due) {
        for (int what = 0; what <= 2; what++) {
            same(when + ", ifOpened(" + door + ", " + what + ")", x.ifOpened(door, what), due[what]);
        }
    }
}
